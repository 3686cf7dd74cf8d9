/-! one group -/
def outC (q r : Nat) (M R : x_m) (C : Option (Int32 × x_m)) (S : Option x_m → Prop) : Prop := ∃ mc mr', C = some (0, mc) ∧ S (some mr') ∧ Flt mc mr' ∧ fr (pQ q) (qQ q) M mc ∧ fr (pQr r) (qQr r) R mr'
theorem g118_f (l1 l2 : Int32) (m : x_m) (h : 0 < m.1 387 5) : B_MD_groupsOf_118 l1 l2 m = some (1, m) := by
  unfold B_MD_groupsOf_118
  rw [if_neg (Int32.not_le.mpr h)]
theorem g54_f (g : Nat) (l1 l2 : Int32) (m : x_m) (h : 0 < m.1 387 5) : B_MD_groupsOf_54 (g + 1) l1 l2 0 m = some (1, m) := by
  rw [B_MD_groupsOf_54, if_pos rfl, g118_f _ _ _ h]
theorem g54 (g : Nat) (l1 l2 : Int32) (m : x_m) : B_MD_groupsOf_54 (g + 1) l1 l2 1 m = (F_MD_read m).bind fun r59 => (F_MD_groupColumn r59).bind fun r63 => (F_MD_read r63).bind fun r67 => sep2 (rSg 6) (fun fl m => B_MD_groupsOf_54 g l1 l2 fl m) r67 := rfl
theorem rg28 {M : x_m} {k s e q ng sz : Nat} (f : Nat) (l1 : Int32) (hq1 : M.2.2.1 114 4 = q) (hq : q = 115 ∨ q = 251) (hg : M.1 q 4 = xI ng) (hn : ng ≤ 8) (hs : sz ≤ 9) : B_QG_readGroup_28 (f + 1) l1 (xI sz) (ct M k s e) = B_QG_readGroup_60 (B_QG_readGroup_28 f) l1 (xI sz) (xI s) (bI (decide (ng = 8))) (ct M k s e) := by
  rw [B_QG_readGroup_28, if_neg (by show ¬ (xI 9 < _); rw [xI_lt (by omega) (by omega)]; omega), show (ct M k s e).2.2.1 114 4 = q from hq1, if_pos (y_qb hq), ct_o _ _ _ _ _ (show q ≠ 3 by omega), hg]
  simp only [show (xI ng = 8) = (ng = 8) from xI_eq (b := 8) (by omega) (by omega)]
  by_cases z : ng = 8
  · rw [if_pos z, decide_eq_true z]; rfl
  · rw [if_neg z, decide_eq_false z]; rfl
/-- a column and what follows it, in a group: class and reference, up to the column itself -/
theorem ls_gone {M R mr : x_m} {n D Ms q r e0 k s e ng sz : Nat} (K : Int32 → Int32 → x_m → Option (Int32 × x_m)) (l1 : Int32) (hz : ZQ M R n D Ms q r) (hg : GQ M R q r ng) (hs : RS R mr k s e) (ht : TF n e0 k s e) :
    (∃ c s' e', ng < 8 ∧ k = 3 ∧ B_QG_readGroup_60 K l1 (xI sz) (xI s) (bI (decide (ng = 8))) (ct M k s e) = (if l1 = 0 then some (xI sz, ct (addG M q ng (xI c)) 3 s' e') else ((F_LX_advance (ct (addG M q ng (xI c)) 3 s' e')).bind fun r117 => (if x_kv (r117.2.2.1 3 1) = true then (if (r117.2.2.1 3 1) = (x_N + 6) then some (xI sz, r117) else ((F_LX_at (x_N + 7) r117).bind fun r142 => (if r142.1 = 0 then some (0, r142.2) else ((F_LX_advance r142.2).bind fun r154 => K l1 (xI sz + 1) r154)))) else none))) ∧ F_MD_groupColumn mr = some (rt (addG R r ng (xI c)) 3 s' e') ∧ ZQ (addG M q ng (xI c)) (addG R r ng (xI c)) n D Ms q r ∧ GQ (addG M q ng (xI c)) (addG R r ng (xI c)) q r (ng + 1) ∧ e' ≤ n ∧ e < e') ∨
    (∃ mc mr', B_QG_readGroup_60 K l1 (xI sz) (xI s) (bI (decide (ng = 8))) (ct M k s e) = some (0, mc) ∧ F_MD_groupColumn mr = some mr' ∧ Flt mc mr' ∧ fr (pQ q) (qQ q) M mc ∧ fr (pQr r) (qQr r) R mr') := by
  have hq := hz.2.2.2.2.2.1
  have hr := hz.2.2.2.2.2.2
  have hq1 := hz.2.2.2.1
  have h5 := Zl_5 hz.1
  unfold B_QG_readGroup_60
  rcases ls_gcol hz hg hs ht with ⟨c, s', e', c1, ck, c2, c3, c4, c5, c6, c7⟩ | ⟨c, s', e', c1, c2, c3, c4⟩ | ⟨mc, mr', c1, c2, c3, c4, c5⟩
  · left
    refine ⟨c, s', e', c1, ck, ?_, c5, ?_, GQ_add hg c1 _, c6, c7⟩
    · have q4 : (ct M 3 s' e').1 q 4 = xI ng := (ct_o _ _ _ _ _ (show q ≠ 3 by omega)).trans hg.2.1
      rw [c2, Option.bind_some]
      simp only []
      rw [if_neg (xI_neg1 (by omega)), show (ct M 3 s' e').2.2.1 114 4 = q from hq1, if_pos (y_qb hq), F_QU_hasColumn_eq _ q4 hg.1, Option.bind_some, show (ct M 3 s' e').2.1 = M.2.1 from rfl, c4]
      simp only [show bI false = 0 from rfl, if_true]
      rw [show (ct M 3 s' e').2.2.1 114 4 = q from hq1, if_pos (y_qb hq), F_QU_addColumn_eq _ q4 c1, Option.bind_some, addG_ct _ _ _ _ hq]
    · refine ZQ_fr hz (upGQ (fr_addG _ _ _ _)) (upGQr (fr_addGr _ _ _ _)) ?_
      exact Fz_S (Fz_A (Fz_Sr (Fz_Ar (Zl_f hz.1)) (by omega))) (by omega)
  · right
    have q4 : (ct M 3 s' e').1 q 4 = xI ng := (ct_o _ _ _ _ _ (show q ≠ 3 by omega)).trans hg.2.1
    rw [c2, Option.bind_some]
    simp only []
    rw [if_neg (xI_neg1 (by omega)), show (ct M 3 s' e').2.2.1 114 4 = q from hq1, if_pos (y_qb hq), F_QU_hasColumn_eq _ q4 hg.1, Option.bind_some, show (ct M 3 s' e').2.1 = M.2.1 from rfl, c3]
    simp only [show bI true = 1 from rfl, show ((1 : Int32) = 0) = False from by decide, if_false]
    rw [c4]
    exact ⟨_, _, rfl, rfl, Flt_cr _ _ _ _ (by decide), upq (fr_trans (fr_ct _ _ _ _) (fr_cf _ _ _)), upqr (fr_trans (fr_rt _ _ _ _) (fr_rf _ _ _))⟩
  · right
    rw [c1, Option.bind_some]
    simp only [if_true]
    exact ⟨mc, mr', rfl, c2, c3, upq c4, upqr c5⟩
theorem ls_groupL {n D Ms q r : Nat} (had kk : Int32) : ∀ (w : Nat) (M R : x_m) (k s e ng sz f g : Nat), mu n k e < w → k ≠ 0 → ZQ M R n D Ms q r → GQ M R q r ng → e ≤ n → sz ≤ ng + 1 → 1 ≤ sz → w ≤ f → w < g →
    (∃ M' R' s' e' ng' sz' g', (F_LX_advance (ct M k s e)).bind (B_QG_readGroup_28 f 1 (xI sz)) = some (xI sz', ct M' 6 s' e') ∧ B_MD_groupsOf_54 g had kk 1 (rt R k s e) = B_MD_groupsOf_54 (g' + 1) had kk 0 (rt R' 6 s' e') ∧ ZQ M' R' n D Ms q r ∧ GQ M' R' q r ng' ∧ ng' + sz = ng + sz' + 1 ∧ sz ≤ sz' ∧ fr (pG q) (qG q) M M' ∧ fr (pGr r) (qGr r) R R' ∧ e' ≤ n ∧ mu n 6 e' < mu n k e) ∨
    (∃ mc mr, (F_LX_advance (ct M k s e)).bind (B_QG_readGroup_28 f 1 (xI sz)) = some (0, mc) ∧ B_MD_groupsOf_54 g had kk 1 (rt R k s e) = some (1, mr) ∧ Flt mc mr ∧ fr (pQ q) (qQ q) M mc ∧ fr (pQr r) (qQr r) R mr) := by
  intro w
  induction w with
  | zero => intro M R k s e ng sz f g hw; exact absurd hw (Nat.not_lt_zero _)
  | succ w ih =>
    intro M R k s e ng sz f g hw hk0 hz hg he hsz hsz1 hf hgf
    cases f with
    | zero => omega
    | succ f =>
    cases g with
    | zero => omega
    | succ g =>
    cases g with
    | zero => omega
    | succ g =>
    have hq := hz.2.2.2.2.2.1
    have hr := hz.2.2.2.2.2.2
    have hq1 := hz.2.2.2.1
    have n8 := hg.1
    obtain ⟨M1, R1, mr1, k1, s1, e1, h1, h2, h3, h4, h5, h6, h7, h8, h9⟩ := stepQ hz (k := k) (s := s) he
    have hg1 := GQ_fr hq hr hg h5 h6
    rw [h1, g54, h2, Option.bind_some, Option.bind_some, rg28 f 1 h4.2.2.2.1 hq hg1.2.1 n8 (by omega)]
    have hlt := mu_step (n := n) (e := e) h7 hk0
    rcases ls_gone (sz := sz) (B_QG_readGroup_28 f) 1 h4 hg1 h3 h7 with ⟨c, s', e', c1, ck, c2, c3, c4, c5, c6, c7⟩ | ⟨mc, mr', c1, c2, c3, c4, c5⟩
    · rw [c2, c3, Option.bind_some, if_neg (show ¬ (1 : Int32) = 0 by decide)]
      have fM2 : fr (pG q) (qG q) M (addG M1 q ng (xI c)) := fr_trans (upCG h5) (fr_addG _ _ _ _)
      have fR2 : fr (pGr r) (qGr r) R (addG R1 r ng (xI c)) := fr_trans (upRG h6) (fr_addGr _ _ _ _)
      generalize addG M1 q ng (xI c) = M2 at *
      generalize addG R1 r ng (xI c) = R2 at *
      obtain ⟨M3, R3, mr3, k3, s3, e3, i1, i2, i3, i4, i5, i6, i7, i8, i9⟩ := stepQ c4 (k := 3) (s := s') c6
      have i7' := i7
      obtain ⟨u1, u2, u3, u4, u5, u6, u7⟩ := i7
      rw [i1, i2, Option.bind_some, Option.bind_some]
      obtain ⟨x7, x6, xo⟩ := sep2_eq (fun fl m => B_MD_groupsOf_54 (g + 1) had kk fl m) i3 (Zl_5 i4.1) u4 (Or.inl rfl : (6 = 6 ∨ 6 = 8))
      rw [show (ct M3 k3 s3 e3).2.2.1 3 1 = kRf k3 from rfl, if_pos (kRf_kv u4)]
      simp only [kRf_is (j := 6) u4 (by omega) (by omega)]
      rw [F_LX_at_eq M3 u4 (by omega) (by omega)]
      have hmu : mu n k3 e3 < mu n k e := by
        have a1 := mu_step (n := n) (e := e') (k := 3) i7' (by omega)
        have a2 : mu n 3 e' ≤ mu n k1 e1 := by
          unfold mu
          rw [if_neg (by omega), if_neg (by omega)]; omega
        omega
      by_cases k6 : k3 = 6
      · left
        rw [if_pos k6, x6 k6]
        obtain ⟨eM, eR⟩ := i9 (by omega) (by omega)
        subst eM; subst eR; subst k6
        exact ⟨M3, R3, s3, e3, ng + 1, sz, g, rfl, rfl, c4, c5, by omega, Nat.le_refl _, fM2, fR2, u2, hmu⟩
      · rw [if_neg k6]
        by_cases k7 : k3 = 7
        · rw [if_pos k7, x7 k7, Option.bind_some]
          simp only [show ((1 : Int32) = 0) = False from by decide, if_false]
          obtain ⟨eM, eR⟩ := i9 (by omega) (by omega)
          subst eM; subst eR; subst k7
          rw [xI_add1]
          have hC : ((F_LX_advance (ct M3 7 s3 e3)).bind fun r154 => B_QG_readGroup_28 f 1 (xI (sz + 1)) r154) = (F_LX_advance (ct M3 7 s3 e3)).bind (B_QG_readGroup_28 f 1 (xI (sz + 1))) := rfl
          rw [hC]
          rcases ih M3 R3 7 s3 e3 (ng + 1) (sz + 1) f (g + 1) (by omega) (by omega) c4 c5 u2 (by omega) (by omega) (by omega) (by omega) with ⟨M', R', s'', e'', ng', sz', g', v1, v2, v3, v4, v5, v6, v7, v8, v9, v10⟩ | ⟨mc, mr, v1, v2, v3, v4, v5⟩
          · left
            exact ⟨M', R', s'', e'', ng', sz', g', v1, v2, v3, v4, by omega, by omega, fr_trans fM2 v7, fr_trans fR2 v8, v9, by omega⟩
          · right
            exact ⟨mc, mr, v1, v2, v3, fr_trans (upGQ fM2) v4, fr_trans (upGQr fR2) v5⟩
        · right
          obtain ⟨mr', y1, y2, y3, y4⟩ := xo k7 k6
          rw [if_neg k7, Option.bind_some]
          simp only [if_true]
          have hp : 0 < mr'.1 387 5 := by rw [y2]; exact kUn_pos k3
          refine ⟨cf (ct M3 k3 s3 e3) (kUn k3) (xI s3), mr', rfl, ?_, ⟨by rw [y2]; rfl, by rw [y3]; rfl, hp⟩, fr_trans (upGQ fM2) (upq (fr_trans i5 (fr_trans (fr_ct _ _ _ _) (fr_cf _ _ _)))), fr_trans (upGQr fR2) (upqr (fr_trans i6 y4))⟩
          rw [y1]; exact g54_f g _ _ _ hp
    · right
      rw [c1, c2, Option.bind_some]
      refine ⟨mc, mr', rfl, ?_, c3, fr_trans (upq h5) c4, fr_trans (upqr h6) c5⟩
      rw [F_MD_read_f _ c3.2.2, Option.bind_some, sep2_f _ _ _ (ne_pos c3.2.2)]
      exact g54_f g _ _ _ c3.2.2
/-- a part noted by the reference -/
def addP (m : x_m) (r np : Nat) (kk sz : Int32) : x_m := x_wS (x_wA (x_wA m (r + 5) np kk) (r + 6) np sz) r 6 (xI (np + 1))
theorem addP_rt (M : x_m) (k s e : Nat) {r : Nat} (hr : r = 395 ∨ r = 409) (np : Nat) (a b : Int32) : addP (rt M k s e) r np a b = rt (addP M r np a b) k s e := by
  unfold addP
  rw [rt_wA, rt_wA, rt_wS _ _ _ _ _ (by omega)]
theorem g118_eq {m : x_m} {r np ng h : Nat} (kk : Nat) (h5 : m.1 387 5 = 0) (hr1 : m.2.2.1 387 22 = r) (hr : r = 395 ∨ r = 409) (h4 : m.1 r 4 = xI ng) (h6 : m.1 r 6 = xI np) (hn : np < 8) (hh : h ≤ ng) (hk : kk ≤ 2) (hn8 : ng ≤ 8) : B_MD_groupsOf_118 (xI h) (xI kk) m = some (xI (if kk = 0 then 1 else if kk = 1 then ng - h + 1 else 2 ^ (ng - h)), addP m r np (xI kk) (xI (ng - h))) := by
  unfold B_MD_groupsOf_118 addP
  simp only [h5, xw_A1, xw_A3, hr1, y_mq hr, if_true, h6, h4, show ((0 : Int32) ≤ 0) = True from by decide]
  rw [xI_ix (by omega), xI_cl (by omega), xI_add1, xI_sub hh]
  simp only [show (decide (np < 8) = true) = True from by simp; omega, if_true, show (xI kk = 0) = (kk = 0) from xI_eq (b := 0) (by omega) (by omega), show (xI kk = 1) = (kk = 1) from xI_eq (b := 1) (by omega) (by omega)]
  unfold B_MD_groupsOf_204
  have sh : ∀ x, x < 9 → (1 : Int32) <<< (xI x &&& 31) = xI (2 ^ x) := by decide +kernel
  by_cases k0 : kk = 0
  · rw [if_pos k0, if_pos k0]; rfl
  · rw [if_neg k0, if_neg k0]
    by_cases k1 : kk = 1
    · rw [if_pos k1, if_pos k1, xI_add1]
    · rw [if_neg k1, if_neg k1, sh _ (by omega)]
