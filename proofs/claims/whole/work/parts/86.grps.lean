/-! group columns -/
def GQ (M R : x_m) (q r ng : Nat) : Prop := ng ≤ 8 ∧ M.1 q 4 = xI ng ∧ R.1 r 4 = xI ng ∧ ∀ i, i < ng → M.2.1 (q + 4) i = R.2.1 (r + 4) i
def addG (m : x_m) (q ng : Nat) (c : Int32) : x_m := x_wS (x_wA m (q + 4) ng c) q 4 (xI (ng + 1))
theorem addG_2 (m : x_m) (q ng : Nat) (c : Int32) (a i : Nat) : (addG m q ng c).2.1 a i = if a = q + 4 ∧ i = ng then c else m.2.1 a i := rfl
theorem addG_1 (m : x_m) (q ng : Nat) (c : Int32) (a b : Nat) : (addG m q ng c).1 a b = if a = q ∧ b = 4 then xI (ng + 1) else m.1 a b := rfl
theorem addG_ct (M : x_m) (k s e : Nat) {q : Nat} (hq : q = 115 ∨ q = 251) (ng : Nat) (c : Int32) : addG (ct M k s e) q ng c = ct (addG M q ng c) k s e := by
  unfold addG
  rw [ct_wA, ct_wS _ _ _ _ _ (by omega)]
theorem addG_rt (M : x_m) (k s e : Nat) {r : Nat} (hr : r = 395 ∨ r = 409) (ng : Nat) (c : Int32) : addG (rt M k s e) r ng c = rt (addG M r ng c) k s e := by
  unfold addG
  rw [rt_wA, rt_wS _ _ _ _ _ (by omega)]
/-- frames of the groups' columns -/
def pG (q a b : Nat) : Prop := a = 3 ∨ (a = q ∧ b = 4)
def qG (q a : Nat) : Prop := a = q + 4
def pGr (r a b : Nat) : Prop := (a = 387 ∧ 5 ≤ b ∧ b ≤ 12) ∨ (a = r ∧ b = 4)
def qGr (r a : Nat) : Prop := a = r + 4
theorem upCG {q : Nat} {m m' : x_m} (h : fr pC q0 m m') : fr (pG q) (qG q) m m' := fr_mono h (fun _ _ z => Or.inl z) (fun _ z => z.elim)
theorem upRG {r : Nat} {m m' : x_m} (h : fr pR q0 m m') : fr (pGr r) (qGr r) m m' := fr_mono h (fun _ _ z => Or.inl z) (fun _ z => z.elim)
theorem upGQ {q : Nat} {m m' : x_m} (h : fr (pG q) (qG q) m m') : fr (pQ q) (qQ q) m m' := fr_mono h (fun a b z => by unfold pG at z; unfold pQ; omega) (fun a z => by unfold qG at z; unfold qQ; omega)
theorem upGQr {r : Nat} {m m' : x_m} (h : fr (pGr r) (qGr r) m m') : fr (pQr r) (qQr r) m m' := fr_mono h (fun a b z => by unfold pGr at z; unfold pQr; omega) (fun a z => by unfold qGr at z; unfold qQr; omega)
theorem fr_addG (m : x_m) (q ng : Nat) (c : Int32) : fr (pG q) (qG q) m (addG m q ng c) := fr_trans (fr_wA _ _ _ _ rfl) (fr_wS _ _ _ _ (Or.inr ⟨rfl, rfl⟩))
theorem fr_addGr (m : x_m) (r ng : Nat) (c : Int32) : fr (pGr r) (qGr r) m (addG m r ng c) := fr_trans (fr_wA _ _ _ _ rfl) (fr_wS _ _ _ _ (Or.inr ⟨rfl, rfl⟩))
theorem GQ_add {M R : x_m} {q r ng : Nat} (h : GQ M R q r ng) (hn : ng < 8) (c : Int32) : GQ (addG M q ng c) (addG R r ng c) q r (ng + 1) := by
  obtain ⟨a1, a2, a3, a4⟩ := h
  refine ⟨by omega, by rw [addG_1, if_pos ⟨rfl, rfl⟩], by rw [addG_1, if_pos ⟨rfl, rfl⟩], fun i hi => ?_⟩
  rw [addG_2, addG_2]
  by_cases e : i = ng
  · rw [if_pos ⟨rfl, e⟩, if_pos ⟨rfl, e⟩]
  · rw [if_neg (fun z => e z.2), if_neg (fun z => e z.2)]; exact a4 i (by omega)
theorem GQ_fr {M R M' R' : x_m} {q r ng : Nat} (hq : q = 115 ∨ q = 251) (hr : r = 395 ∨ r = 409) (h : GQ M R q r ng) (f : fr pC q0 M M') (g : fr pR q0 R R') : GQ M' R' q r ng := by
  obtain ⟨a1, a2, a3, a4⟩ := h
  refine ⟨a1, (f.1 _ _ (by unfold pC; omega)).trans a2, (g.1 _ _ (by unfold pR; omega)).trans a3, fun i hi => ?_⟩
  rw [f.2.1 _ id, g.2.1 _ id]; exact a4 i hi
theorem p_hasCol {m : x_m} {q ng : Nat} (c : Int32) (h4 : m.1 q 4 = xI ng) (hn : ng ≤ 8) : ∀ (d i f : Nat), i + d = ng → d < f → B_QU_hasColumn_2 q f c (xI i) m = some (bI (mem8 (m.2.1 (q + 4)) c d i), m) := by
  intro d
  induction d with
  | zero =>
    intro i f hi hf
    cases f with
    | zero => omega
    | succ f =>
      rw [B_QU_hasColumn_2, h4, if_pos (by rw [xI_le (by omega) (by omega)]; omega)]
      rfl
  | succ d ih =>
    intro i f hi hf
    cases f with
    | zero => omega
    | succ f =>
      rw [B_QU_hasColumn_2, h4, if_neg (by rw [xI_le (by omega) (by omega)]; omega), xI_ix (by omega), if_pos (show decide (i < 8) = true by simp; omega), xI_cl (by omega), xI_add1, ih (i + 1) f (by omega) (by omega), mem8]
      split <;> rfl
theorem F_QU_hasColumn_eq {m : x_m} {q ng : Nat} (c : Int32) (h4 : m.1 q 4 = xI ng) (hn : ng ≤ 8) : F_QU_hasColumn q c m = some (bI (mem8 (m.2.1 (q + 4)) c ng 0), m) := p_hasCol c h4 hn ng 0 x_fu (by omega) (by unfold x_fu; omega)
theorem F_QU_addColumn_eq {m : x_m} {q ng : Nat} (c : Int32) (h4 : m.1 q 4 = xI ng) (hn : ng < 8) : F_QU_addColumn q c m = some (addG m q ng c) := by
  unfold F_QU_addColumn B_QU_addColumn_29 addG
  rw [xw_A1, h4, if_neg (by show ¬ (xI 8 ≤ _); rw [xI_le (by omega) (by omega)]; omega), xI_ix (by omega), if_pos (show decide (ng < 8) = true by simp; omega), xI_cl (by omega), xI_add1]
/-- the reference's search for a column that is there already -/
theorem p_twice {m : x_m} {r ng : Nat} (l1 c : Int32) (hr1 : m.2.2.1 387 22 = r) (hr : r = 395 ∨ r = 409) (h4 : m.1 r 4 = xI ng) (hn : ng ≤ 8) : ∀ (d i f : Nat) (tw : Bool), i + d = ng → d < f → B_MD_groupColumn_50 f l1 c (bI tw) (xI i) m = B_MD_groupColumn_105 l1 c (bI (!(tw || mem8 (m.2.1 (r + 4)) c d i))) m := by
  intro d
  induction d with
  | zero =>
    intro i f tw hi hf
    cases f with
    | zero => omega
    | succ f =>
      rw [B_MD_groupColumn_50, hr1, if_pos (y_mq hr), h4, if_pos (by rw [xI_le (by omega) (by omega)]; omega)]
      simp only [bI_0]
      cases tw <;> rfl
  | succ d ih =>
    intro i f tw hi hf
    cases f with
    | zero => omega
    | succ f =>
      rw [B_MD_groupColumn_50, hr1, if_pos (y_mq hr), h4, if_neg (by rw [xI_le (by omega) (by omega)]; omega), if_pos (y_mq hr), xI_ix (by omega), if_pos (show decide (i < 8) = true by simp; omega), xI_cl (by omega)]
      unfold B_MD_groupColumn_81 B_MD_groupColumn_86
      rw [xI_add1]
      have i1 := ih (i + 1) f true (by omega) (by omega)
      have i0 := ih (i + 1) f false (by omega) (by omega)
      rw [show bI true = 1 from rfl] at i1
      rw [show bI false = 0 from rfl] at i0
      rw [i1, i0, mem8]
      simp only [bI_0]
      cases tw
      · rw [if_pos rfl]
        by_cases h : m.2.1 (r + 4) i = c
        · rw [if_pos h, if_pos h]; rfl
        · rw [if_neg h, if_neg h]
      · rw [if_neg (by decide)]; rfl
theorem gc105_f (l1 c s0 : Int32) (m : x_m) (h : m.1 387 5 ≠ 0) : B_MD_groupColumn_105 l1 c s0 m = some m := by
  unfold B_MD_groupColumn_105 B_MD_groupColumn_143
  rw [F_MD_want_f m _ _ _ h]; rfl
theorem mem8_eq {M R : x_m} {q r ng : Nat} (h : GQ M R q r ng) (c : Int32) : mem8 (M.2.1 (q + 4)) c ng 0 = mem8 (R.2.1 (r + 4)) c ng 0 := mem8_congr c ng 0 (fun j _ hj => h.2.2.2 j (by omega))
theorem F_MD_groupColumn_f {m : x_m} {r : Nat} (h : m.1 387 5 ≠ 0) (hr1 : m.2.2.1 387 22 = r) (hr : r = 395 ∨ r = 409) : F_MD_groupColumn m = some m := by
  have e28 : ∀ l1 s0, B_MD_groupColumn_28 l1 0 s0 m = some m := by
    intro l1 s0
    unfold B_MD_groupColumn_28
    rw [F_MD_want_f m _ _ _ h]; rfl
  unfold F_MD_groupColumn
  rw [F_MD_columnsDimension_f m h, Option.bind_some]
  simp only []
  rw [hr1, if_pos (y_mq hr), e28, e28]
  split <;> rfl
/-- a column of a group -/
theorem ls_gcol {M R mr : x_m} {n D Ms q r e0 k s e ng : Nat} (hz : ZQ M R n D Ms q r) (hg : GQ M R q r ng) (hs : RS R mr k s e) (ht : TF n e0 k s e) :
    (∃ c s' e', ng < 8 ∧ k = 3 ∧ F_QG_readColumn (bI (decide (ng = 8))) (ct M k s e) = some (xI c, ct M 3 s' e') ∧ c < 32 ∧ mem8 (M.2.1 (q + 4)) (xI c) ng 0 = false ∧ F_MD_groupColumn mr = some (rt (addG R r ng (xI c)) 3 s' e') ∧ e' ≤ n ∧ e < e') ∨
    (∃ c s' e', c < 32 ∧ F_QG_readColumn (bI (decide (ng = 8))) (ct M k s e) = some (xI c, ct M 3 s' e') ∧ mem8 (M.2.1 (q + 4)) (xI c) ng 0 = true ∧ F_MD_groupColumn mr = some (rf (rt R 3 s' e') 10 (xI s))) ∨
    (∃ mc mr', F_QG_readColumn (bI (decide (ng = 8))) (ct M k s e) = some (-1, mc) ∧ F_MD_groupColumn mr = some mr' ∧ Flt mc mr' ∧ fr pC q0 M mc ∧ fr pR q0 R mr') := by
  have hq := hz.2.2.2.2.2.1
  have hr := hz.2.2.2.2.2.2
  have hr1 := hz.2.2.2.2.1
  have h5 := Zl_5 hz.1
  have hD8 := hz.2.1.2.2.1
  have n8 := hg.1
  have m8 : mr.1 387 8 = xI s := by
    rcases hs with ⟨_, _, z⟩ | ⟨_, e2, z⟩ <;> subst z <;> rfl
  have hR : F_MD_groupColumn mr = (F_MD_columnsDimension mr).bind fun r6 => (if x_mq (r6.2.2.2.1 387 22) = true then (if 8 ≤ (r6.2.1 (r6.2.2.2.1 387 22) 4) then B_MD_groupColumn_28 (xI s) r6.1 0 r6.2 else B_MD_groupColumn_28 (xI s) r6.1 1 r6.2) else none) := by
    unfold F_MD_groupColumn
    rw [m8]
  have rn : ∀ k' s' e', (rt R k' s' e').1 r 4 = xI ng := by
    intro k' s' e'
    show (if r = 387 then _ else R.1 r 4) = _
    rw [if_neg (by omega)]; exact hg.2.2.1
  have i8 : (8 ≤ xI ng) = (8 ≤ ng) := xI_le (a := 8) (by omega) (by omega)
  have h28 : ng < 8 → ∀ (l2 : Int32) s' e', B_MD_groupColumn_28 (xI s) l2 1 (rt R 3 s' e') = (F_MD_columnsLevel l2 (rt R 3 s' e')).bind fun r40 => B_MD_groupColumn_50 x_fu (xI s) r40.1 0 0 r40.2 := by
    intro _ l2 s' e'
    unfold B_MD_groupColumn_28
    rw [F_MD_want_1 (rt R 3 s' e') _ _ h5, Option.bind_some]
    rfl
  rw [hR]
  rcases ls_column (decide (ng = 8)) hz hs ht with ⟨mc, mr', c1, c2, c3, c4, c5⟩ | ⟨j, j1, j2, j3, ⟨z, c1⟩ | ⟨z, ⟨mc, mr', c1, c2, c3, c4, c5⟩ | ⟨col, s', e', c1, c2, c3, c4, c5, c6, c7, c8⟩⟩⟩
  · right; right
    rw [c1, c2, Option.bind_some]
    simp only []
    rw [(c5.2.2.1 _ _ (by omega)).trans hr1, if_pos (y_mq hr)]
    refine ⟨mc, mr', rfl, ?_, c3, c4, c5⟩
    have e28 : ∀ s0, B_MD_groupColumn_28 (xI s) 0 s0 mr' = some mr' := by
      intro s0
      unfold B_MD_groupColumn_28
      rw [F_MD_want_f mr' _ _ _ (ne_pos c3.2.2)]; rfl
    rw [e28, e28]
    split <;> rfl
  · right; right
    have z8 : ng = 8 := of_decide_eq_true z
    subst j2
    rw [c1, j3, Option.bind_some]
    simp only []
    rw [show (rt R 3 s e).2.2.1 387 22 = r from hr1, if_pos (y_mq hr), rn]
    simp only [i8]
    rw [if_pos (show 8 ≤ ng by omega)]
    unfold B_MD_groupColumn_28
    rw [F_MD_want_0 (rt R 3 s e) 7 _ h5 (by decide), Option.bind_some]
    exact ⟨_, _, rfl, rfl, Flt_cr _ _ _ _ (by decide), fr_trans (fr_ct _ _ _ _) (fr_cf _ _ _), fr_trans (fr_rt _ _ _ _) (fr_rf _ _ _)⟩
  · right; right
    have z8 : ¬ ng = 8 := of_decide_eq_false z
    subst j2
    rw [c1, j3, Option.bind_some]
    simp only []
    rw [show (rt R 3 s e).2.2.1 387 22 = r from hr1, if_pos (y_mq hr), rn]
    simp only [i8]
    rw [if_neg (show ¬ 8 ≤ ng by omega), h28 (by omega), c2, Option.bind_some]
    simp only []
    have p2 := p_twice (m := mr') (xI s) 0 ((c5.2.2.1 _ _ (by omega)).trans hr1) hr ((c5.1 _ _ (by unfold pR; omega)).trans hg.2.2.1) n8 ng 0 x_fu false (by omega) (by unfold x_fu; omega)
    rw [show B_MD_groupColumn_50 x_fu (xI s) 0 0 0 mr' = _ from p2, gc105_f _ _ _ _ (ne_pos c3.2.2)]
    exact ⟨mc, mr', rfl, rfl, c3, c4, c5⟩
  · have z8 : ¬ ng = 8 := of_decide_eq_false z
    subst j2
    rw [c4, j3, Option.bind_some]
    simp only []
    rw [show (rt R 3 s e).2.2.1 387 22 = r from hr1, if_pos (y_mq hr), rn]
    simp only [i8]
    rw [if_neg (show ¬ 8 ≤ ng by omega), h28 (by omega), c5, Option.bind_some]
    simp only []
    have p2 := p_twice (m := rt R 3 s' e') (xI s) (xI col) hr1 hr (rn 3 s' e') n8 ng 0 x_fu false (by omega) (by unfold x_fu; omega)
    rw [show B_MD_groupColumn_50 x_fu (xI s) (xI col) 0 0 (rt R 3 s' e') = _ from p2, Bool.false_or, show (rt R 3 s' e').2.1 = R.2.1 from rfl, ← mem8_eq hg]
    by_cases ht : mem8 (M.2.1 (q + 4)) (xI col) ng 0 = true
    · right; left
      refine ⟨col, s', e', c1, rfl, ht, ?_⟩
      rw [ht]
      unfold B_MD_groupColumn_105 B_MD_groupColumn_143
      rw [show bI (!true) = 0 from rfl, F_MD_want_0 (rt R 3 s' e') 10 _ h5 (by decide), Option.bind_some]
      rfl
    · left
      have ht' : mem8 (M.2.1 (q + 4)) (xI col) ng 0 = false := by simpa using ht
      refine ⟨col, s', e', by omega, by trivial, rfl, c1, ht', ?_, c7, c8⟩
      rw [ht']
      unfold B_MD_groupColumn_105 B_MD_groupColumn_143
      rw [show bI (!false) = 1 from rfl, F_MD_want_1 (rt R 3 s' e') 10 _ h5, Option.bind_some]
      simp only [xw_A1, xw_A3, show ((1 : Int32) = 0) = False from by decide, if_false, show (rt R 3 s' e').2.2.1 387 22 = r from hr1, y_mq hr, if_true, rn]
      rw [xI_ix (by omega), if_pos (show decide (ng < 8) = true by simp; omega), xI_cl (by omega), xI_add1]
      show some (addG (rt R 3 s' e') r ng (xI col)) = _
      rw [addG_rt _ _ _ _ hr]
