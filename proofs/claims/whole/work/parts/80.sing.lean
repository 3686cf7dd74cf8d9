/-! conditions in step -/
def restW (f p : Nat) (pt : Int32) (r89 : x_m) : Option (Int32 × x_m) := (if x_kv (r89.2.2.1 3 1) = true then (if (r89.2.2.1 3 1) = (x_N + 32) then ((F_CN_startAlternative p r89).bind fun r106 => B_QG_readWhere_152 (B_QG_readWhere_17 f) p pt r106) else (if x_kv (r89.2.2.1 3 1) = true then (if (r89.2.2.1 3 1) = (x_N + 31) then B_QG_readWhere_152 (B_QG_readWhere_17 f) p pt r89 else ((F_CN_finish p r89).bind fun r126 => (if (r126.1 p 1) = 0 then B_QG_readWhere_146 r126 else ((F_LX_tellUnfit r126).bind fun r140 => (if r140.1 = 0 then B_QG_readWhere_151 0 r140.2 else B_QG_readWhere_146 r140.2))))) else none)) else none)
/-- the class's loop behind a part that was put to its line -/
def Post (h f p : Nat) (pt : Int32) (m : x_m) : Option (Int32 × x_m) := (B_QG_readClosings_12 p h (m.1 p 1) m).bind (restW f p pt)
theorem post_skip {M : x_m} {p dp k s e : Nat} (h f : Nat) (pt : Int32) (hp : p ≠ 3) (hd : M.1 p 1 = xI dp) (hd40 : dp ≤ 40) (hk : k ≤ 36) (h6 : k ≠ 6 ∨ dp = 0) : Post (h + 1) f p pt (ct M k s e) = restW f p pt (ct M k s e) := by
  unfold Post
  rw [ct_o _ _ _ _ _ hp, hd, B_QG_readClosings_12, show (ct M k s e).2.2.1 3 1 = kRf k from rfl, if_pos (kRf_kv hk)]
  simp only [show (xI dp ≤ 0) = (dp ≤ 0) from xI_le (b := 0) (by omega) (by omega), kRf_is (j := 6) hk (by omega) (by omega)]
  unfold B_QG_readClosings_46
  by_cases z : dp ≤ 0
  · rw [if_pos z]; rfl
  · rw [if_neg z, if_neg (by omega)]; rfl
theorem post_close {M : x_m} {p dp s e : Nat} (h f : Nat) (pt : Int32) (hp : p ≠ 3) (hd : M.1 p 1 = xI (dp + 1)) (hd40 : dp + 1 ≤ 40) : Post (h + 1) f p pt (ct M 6 s e) = (F_CN_closeBracket p (ct M 6 s e)).bind fun r30 => (F_LX_advance r30).bind fun r37 => (B_QG_readClosings_12 p h (xI dp) r37).bind (restW f p pt) := by
  unfold Post
  rw [ct_o _ _ _ _ _ hp, hd, B_QG_readClosings_12, if_neg (by show ¬ (xI (dp + 1) ≤ xI 0); rw [xI_le (by omega) (by omega)]; omega), show (ct M 6 s e).2.2.1 3 1 = x_N + 6 from rfl, if_pos (by unfold x_kv; simp), if_pos rfl]
  have : xI (dp + 1) + (-1) = xI dp := by
    rw [← xI_add1, Int32.add_assoc]
    show xI dp + 0 = xI dp
    rw [Int32.add_zero]
  rw [this]
  cases F_CN_closeBracket p (ct M 6 s e) with
  | none => rfl
  | some x =>
    show ((F_LX_advance x).bind _).bind _ = (F_LX_advance x).bind _
    cases F_LX_advance x <;> rfl
theorem where_not {M : x_m} {p s e pt : Nat} (f : Nat) (hpt : pt ≤ 60000) : B_QG_readWhere_17 (f + 1) p (xI pt) (ct M 33 s e) = (F_CN_negateNext p (ct M 33 s e)).bind fun r37 => B_QG_readWhere_152 (B_QG_readWhere_17 f) p (xI pt) r37 := by
  rw [B_QG_readWhere_17, if_neg (by show ¬ (xI 65536 < _); rw [xI_lt (by omega) (by omega)]; omega), show (ct M 33 s e).2.2.1 3 1 = x_N + 33 from rfl, if_pos (by unfold x_kv; simp), if_pos rfl]
theorem where_open {M : x_m} {p s e pt : Nat} (f : Nat) (hpt : pt ≤ 60000) : B_QG_readWhere_17 (f + 1) p (xI pt) (ct M 5 s e) = (F_CN_openBracket p (ct M 5 s e)).bind fun r57 => (if r57.1 = 0 then ((F_LX_tellHere 7 r57.2).bind fun r69 => (if x_b1 r69.1 = true then some (r69.1, r69.2) else none)) else B_QG_readWhere_152 (B_QG_readWhere_17 f) p (xI pt) r57.2) := by
  rw [B_QG_readWhere_17, if_neg (by show ¬ (xI 65536 < _); rw [xI_lt (by omega) (by omega)]; omega), show (ct M 5 s e).2.2.1 3 1 = x_N + 5 from rfl, if_pos (by unfold x_kv; simp), if_neg (by unfold x_N; omega), if_pos (by unfold x_kv; simp), if_pos rfl]
theorem where_cmp {M : x_m} {p k s e pt : Nat} (f : Nat) (hpt : pt ≤ 60000) (hk : k ≤ 36) (h33 : k ≠ 33) (h5 : k ≠ 5) : B_QG_readWhere_17 (f + 1) p (xI pt) (ct M k s e) = (F_QG_readComparison p (ct M k s e)).bind fun r75 => (if r75.1 = 0 then some (0, r75.2) else ((F_CN_addComing p r75.2).bind fun r84 => (F_LX_advance r84).bind fun r4 => Post x_fu f p (xI pt) r4)) := by
  rw [B_QG_readWhere_17, if_neg (by show ¬ (xI 65536 < _); rw [xI_lt (by omega) (by omega)]; omega), show (ct M k s e).2.2.1 3 1 = kRf k from rfl, if_pos (kRf_kv hk)]
  simp only [kRf_is (j := 33) hk (by omega) (by omega), kRf_is (j := 5) hk (by omega) (by omega), kRf_kv hk, if_true]
  rw [if_neg h33, if_neg h5]
  congr 1
  funext r75
  split
  · rfl
  · congr 1
    funext r84
    unfold F_QG_readClosings Post
    cases F_LX_advance r84 <;> rfl
def CSt (M R : x_m) (n D Ms q r cc jc dp sn : Nat) : Prop := ZQ M R n D Ms q r ∧ CI M (q + 6) cc jc dp ∧ R.1 r 13 = xI cc ∧ R.1 r 11 = xI sn ∧ R.1 387 24 = xI dp ∧ (∀ i, i < cc → CmpR M R q r D i) ∧ sn ≤ 43 * cc
/-- comparisons stay when neither they nor the levels change -/
theorem Cmps_fr {M R M' R' : x_m} {q r D cc : Nat} (hq : q = 115 ∨ q = 251) (hD : D ≤ 8) (hc : cc ≤ 60) (h : ∀ i, i < cc → CmpR M R q r D i) (f : ∀ i b, i < 60 → M'.1 (q + 16 + 2 * i) b = M.1 (q + 16 + 2 * i) b) (f2 : ∀ i, i < 60 → M'.2.1 (q + 16 + 2 * i + 1) = M.2.1 (q + 16 + 2 * i + 1)) (fl : ∀ d, d < 8 → M'.1 (9 + 13 * d) 0 = M.1 (9 + 13 * d) 0) (g : ∀ a, r + 9 ≤ a → a ≤ r + 13 → R'.2.1 a = R.2.1 a) : ∀ i, i < cc → CmpR M' R' q r D i := by
  intro i hi
  refine CmpR_keep (n := i + 1) (h i hi) (by omega) hq (by omega) hD (fun b => f i b (by omega)) (f2 i (by omega)) fl ⟨fun a j x y _ => congrFun (g a x (by omega)) j, fun j _ => congrFun (g _ (by omega) (by omega)) j⟩
theorem upNQ {q : Nat} {m m' : x_m} (h : fr (pN (q + 6)) (qN' (q + 6)) m m') : fr (pW q) (qW q) m m' := fr_mono h (fun a b z => by unfold pN at z; unfold pW; omega) (fun a z => by unfold qN' at z; unfold qW; omega)
/-- a token more -/
theorem CSt_tok {M R M' R' : x_m} {n D Ms q r cc jc dp sn : Nat} (h : CSt M R n D Ms q r cc jc dp sn) (z : ZQ M' R' n D Ms q r) (f : fr pC q0 M M') (g : fr pR q0 R R') : CSt M' R' n D Ms q r cc jc dp sn := by
  obtain ⟨a1, a2, a3, a4, a5, a6, a7⟩ := h
  have hq := a1.2.2.2.2.2.1
  have hr := a1.2.2.2.2.2.2
  refine ⟨z, CI_ag a2 ⟨fun j _ => ⟨congrFun (f.2.1 _ id) _, congrFun (f.2.1 _ id) _, congrFun (f.2.1 _ id) _⟩, fun x _ => congrFun (f.2.1 _ id) _⟩ (fun b => f.1 _ _ (by unfold pC; omega)), (g.1 _ _ (by unfold pR; omega)).trans a3, (g.1 _ _ (by unfold pR; omega)).trans a4, (g.1 _ _ (by unfold pR; omega)).trans a5, Cmps_fr hq a1.2.1.2.2.1 a2.2.2.2.1 a6 (fun i b _ => f.1 _ _ (by unfold pC; omega)) (fun i _ => f.2.1 _ id) (fun d _ => f.1 _ _ (by unfold pC; omega)) (fun a _ _ => g.2.1 _ id), a7⟩
theorem tok_ag {M M' : x_m} (f : fr pC q0 M M') (p cc jc : Nat) : agM M M' p cc jc := ⟨fun j _ => ⟨congrFun (f.2.1 _ id) _, congrFun (f.2.1 _ id) _, congrFun (f.2.1 _ id) _⟩, fun x _ => congrFun (f.2.1 _ id) _⟩
theorem tok_2 {M M' : x_m} (f : fr pC q0 M M') : M'.2.1 = M.2.1 := by funext a; exact f.2.1 a id
/-- a step of the class's condition -/
theorem CSt_cls {M R M' : x_m} {n D Ms q r cc jc dp sn jc' dp' : Nat} (h : CSt M R n D Ms q r cc jc dp sn) (f : fr (pN (q + 6)) (qN' (q + 6)) M M') (hI : CI M' (q + 6) cc jc' dp') (hd : R.1 387 24 = xI dp') : CSt M' R n D Ms q r cc jc' dp' sn := by
  obtain ⟨a1, a2, a3, a4, a5, a6, a7⟩ := h
  have hq := a1.2.2.2.2.2.1
  exact ⟨ZW_fr a1 (upNQ f) (fr_refl _ _ _) (Fz_f (Zl_f a1.1) f (by unfold pN; omega) (by unfold pN; omega)), hI, a3, a4, hd, Cmps_fr hq a1.2.1.2.2.1 a2.2.2.2.1 a6 (fun i b _ => f.1 _ _ (by unfold pN; omega)) (fun i _ => f.2.1 _ (by unfold qN'; omega)) (fun d _ => f.1 _ _ (by unfold pN; omega)) (fun a _ _ => rfl), a7⟩
/-- a sign more -/
theorem CSt_say {M R : x_m} {n D Ms q r cc jc dp sn : Nat} (a : Int32) (h : CSt M R n D Ms q r cc jc dp sn) (hb : sn + 1 ≤ 43 * cc) : CSt M (sayS R r sn a) n D Ms q r cc jc dp (sn + 1) := by
  obtain ⟨a1, a2, a3, a4, a5, a6, a7⟩ := h
  have hq := a1.2.2.2.2.2.1
  have hr := a1.2.2.2.2.2.2
  have r1 : ∀ x y, (sayS R r sn a).1 x y = if x = r ∧ y = 11 then xI (sn + 1) else R.1 x y := fun x y => rfl
  have r2 : ∀ x y, (sayS R r sn a).2.1 x y = if x = r + 8 ∧ y = sn then a else R.2.1 x y := fun x y => rfl
  refine ⟨ZW_fr a1 (fr_refl _ _ _) (fr_say _ _ _ _) (Fz_Sr (Fz_Ar (Zl_f a1.1)) (by omega)), a2, by rw [r1, if_neg (by omega)]; exact a3, by rw [r1, if_pos ⟨rfl, rfl⟩], by rw [r1, if_neg (by omega)]; exact a5, Cmps_fr hq a1.2.1.2.2.1 a2.2.2.2.1 a6 (fun _ _ _ => rfl) (fun _ _ => rfl) (fun _ _ => rfl) (fun x h1 h2 => ?_), hb⟩
  funext y
  rw [r2, if_neg (by omega)]
def outF (q r : Nat) (M R : x_m) (C : Option (Int32 × x_m)) (S : Option x_m) : Prop := ∃ mc mr', C = some (0, mc) ∧ S = some mr' ∧ Flt mc mr' ∧ fr (pW q) (qW q) M mc ∧ fr (pWr r) (qWr r) R mr'
/-- what is left of the text: it grows less with each token -/
def mu (n k e : Nat) : Nat := n - e + (if k = 0 then 0 else 1)
theorem mu_ge (n k e : Nat) : n - e ≤ mu n k e ∧ mu n k e ≤ n - e + 1 := by
  unfold mu
  split <;> omega
theorem mu_step {n k e k' s' e' : Nat} (ht : TF n e k' s' e') (hk : k ≠ 0) : mu n k' e' < mu n k e := by
  obtain ⟨t1, t2, t3, t4, t5, t6, t7⟩ := ht
  unfold mu
  rw [if_neg hk]
  by_cases z : k' = 0
  · rw [if_pos z]; omega
  · rw [if_neg z]; have := t5 z; omega
/-- a part read and put to its line -/
def outB (n D Ms q r dp W ex : Nat) (M R : x_m) (cc jc sn u : Nat) (ob : Option Nat) (C : Option (Int32 × x_m)) (S : Option x_m) (bad : Nat → Prop) : Prop := ∃ (M' R' mr' : x_m) (k' s' e' e0' f' pt' h' cc' jc' sn' b' : Nat) (g : (Nat → Bool) → Bool),
  (C = Post h' f' (q + 6) (xI pt') (ct M' k' s' e') ∧ S = some mr' ∧ RS R' mr' k' s' e' ∧ TF n e0' k' s' e' ∧ mu n k' e' < u ∧ pt' + mu n k' e' ≤ n + 1 ∧ mu n k' e' < f' ∧ dp < h' ∧ bad k') ∧
  (CSt M' R' n D Ms q r cc' jc' dp sn' ∧ cc < cc' ∧ M'.2.1 (q + 6 + 7) dp = M.2.1 (q + 6 + 7) dp ∧ M'.2.1 (q + 6 + 9) dp = 0 ∧ M'.2.1 (q + 6 + 8) dp = xI b' ∧ vld cc' jc' b' ∧ ¬ vld cc jc b' ∧ lnK M M' (q + 6) dp ∧ agM M M' (q + 6) cc jc ∧ clo M' (q + 6) cc jc ∧ jc ≤ jc' ∧ cc' + jc = cc + jc' + (if ob = none then 1 else 0) ∧ (jc' = jc → b' = cc) ∧ (jc < jc' → b' = 60 + jc' - 1)) ∧
  ((∀ j, j < sn → R'.2.1 (r + 8) j = R.2.1 (r + 8) j) ∧ sn ≤ sn' ∧ sn' + ex ≤ sn + W * (cc' - cc) ∧ (k' ≠ 1 → k' ≠ 36 → Seg (R'.2.1 (r + 8)) sn sn' cc cc' g) ∧ (∀ a, tvL M' (q + 6) a jc' b' = anV (ob.map (tvL M (q + 6) a jc)) (g a)) ∧ fr (pW q) (qW q) M M' ∧ fr (pWr r) (qWr r) R R')
theorem F_MD_comparison_f {m : x_m} {r : Nat} (h : m.1 387 5 ≠ 0) (hr1 : m.2.2.1 387 22 = r) (hr : r = 395 ∨ r = 409) : F_MD_comparison m = some m := by
  have e28 : ∀ l1 s0, B_MD_comparison_28 l1 0 s0 m = some m := by
    intro l1 s0
    unfold B_MD_comparison_28
    rw [F_MD_want_f m _ _ _ h]; rfl
  unfold F_MD_comparison
  rw [F_MD_columnsDimension_f m h, Option.bind_some]
  simp only []
  rw [hr1, if_pos (y_mq hr), e28, e28]
  split <;> rfl
theorem fr_sayC (R : x_m) (r c sn : Nat) : fr (pWr r) (qWr r) R (sayC R r c sn) := fr_trans (fr_wS _ _ _ _ (by unfold pWr; omega)) (fr_say _ _ _ _)
