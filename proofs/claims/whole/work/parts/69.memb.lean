/-! members told -/
def nmust (m : x_m) : Option (Int32 × x_m) := if m.1 387 9 = 2 then F_MD_must 1 m else F_MD_must 0 m
/-- a number that must stand next -/
theorem ls_num {M R : x_m} {n : Nat} (h : Zl M R n) {k s e : Nat} (he : e ≤ n) :
    (∃ M' R' s' e', F_LX_next (x_N + 2) (ct M k s e) = some (1, ct M' 2 s' e') ∧ F_MD_read (rt R k s e) = some (rt R' 2 s' e') ∧ nmust (rt R' 2 s' e') = some (1, rt R' 2 s' e') ∧ M'.1 3 4 = R'.1 387 11 ∧ Zl M' R' n ∧ fr pC q0 M M' ∧ fr pR q0 R R' ∧ e' ≤ n ∧ e < e' ∧ s' ≤ e') ∨
    (∃ mc mr mr', F_LX_next (x_N + 2) (ct M k s e) = some (0, mc) ∧ F_MD_read (rt R k s e) = some mr ∧ nmust mr = some (0, mr') ∧ Flt mc mr' ∧ fr pC q0 M mc ∧ fr pR q0 R mr') := by
  obtain ⟨M1, R1, mr, k1, s1, e1, h1, h2, h3, h4, h5, h6, h7, h8, h9⟩ := step2 h (k := k) (s := s) he
  obtain ⟨t1, t2, t3, t4, t5, t6, t7⟩ := h7
  have cl : F_LX_next (x_N + 2) (ct M k s e) = if k1 = 2 then some (1, ct M1 k1 s1 e1) else some (0, cf (ct M1 k1 s1 e1) (kUn k1) (xI s1)) := by
    unfold F_LX_next
    rw [h1, Option.bind_some, F_LX_at_eq M1 t4 (by omega) (by omega)]
    split <;> rfl
  rw [cl, h2]
  by_cases hk : k1 = 2
  · left
    subst hk
    have eq := RS_good h3 (by omega) (by omega)
    subst eq
    refine ⟨M1, R1, s1, e1, rfl, rfl, ?_, h8 rfl, h4, h5, h6, t2, t5 (by omega), t1⟩
    unfold nmust
    rw [if_pos (show (rt R1 2 s1 e1).1 387 9 = 2 from rfl)]
    exact F_MD_must_1 _ (Zl_5 h4)
  · right
    rw [if_neg hk]
    by_cases hb : k1 = 1 ∨ k1 = 36
    · obtain ⟨b1, b2, b3⟩ := RS_bad h3 hb
      have hne : mr.1 387 5 ≠ 0 := by rw [b1]; exact kUn_ne k1
      refine ⟨_, mr, mr, rfl, rfl, ?_, ⟨by rw [b1]; rfl, by rw [b2]; rfl, by rw [b1]; exact kUn_pos k1⟩, fr_trans h5 (fr_trans (fr_ct _ _ _ _) (fr_cf _ _ _)), fr_trans h6 b3⟩
      unfold nmust
      rw [F_MD_must_f mr _ hne, F_MD_must_f mr _ hne]
      split <;> rfl
    · have g1 : k1 ≠ 1 := fun z => hb (Or.inl z)
      have g2 : k1 ≠ 36 := fun z => hb (Or.inr z)
      have eq := RS_good h3 g1 g2
      subst eq
      refine ⟨_, _, rf (rt R1 k1 s1 e1) (kUn k1) (xI s1), rfl, rfl, ?_, Flt_cr _ _ _ _ (kUn_pos k1), fr_trans h5 (fr_trans (fr_ct _ _ _ _) (fr_cf _ _ _)), fr_trans h6 (fr_trans (fr_rt _ _ _ _) (fr_rf _ _ _))⟩
      unfold nmust
      rw [if_neg (show ¬ (rt R1 k1 s1 e1).1 387 9 = 2 from fun z => hk ((rTk_tab k1 t4 g1 g2).2.2.2.1.mp z))]
      exact F_MD_must_0 R1 t4 g1 g2 (Zl_5 h4)
def qV (d a : Nat) : Prop := 11 + 13 * d ≤ a ∧ a < 15 + 13 * d
def qVr (a : Nat) : Prop := a = 391
theorem up1 {d : Nat} {m m' : x_m} (h : fr pC q0 m m') : fr pC (qV d) m m' := fr_mono h (fun _ _ z => z) (fun _ z => z.elim)
theorem up1r {m m' : x_m} (h : fr pR q0 m m') : fr pR qVr m m' := fr_mono h (fun _ _ z => z) (fun _ z => z.elim)
def kpV (M M' : x_m) (d c : Nat) : Prop := ∀ l i, l < 4 → i < c → M'.2.1 (11 + 13 * d + l) i = M.2.1 (11 + 13 * d + l) i
def kpVr (R R' : x_m) (d c : Nat) : Prop := ∀ j, (j < 4000 * d + 4 * c ∨ 4000 * d + 4000 ≤ j) → R'.2.1 391 j = R.2.1 391 j
theorem kpV_trans {M M' M'' : x_m} {d c c' : Nat} (h : kpV M M' d c) (h' : kpV M' M'' d c') (hc : c ≤ c') : kpV M M'' d c := fun l i hl hi => (h' l i hl (by omega)).trans (h l i hl hi)
theorem kpVr_trans {M M' M'' : x_m} {d c c' : Nat} (h : kpVr M M' d c) (h' : kpVr M' M'' d c') (hc : c ≤ c') : kpVr M M'' d c := fun j hj => (h' j (by omega)).trans (h j hj)
theorem kpV_fr {M M' : x_m} {d c : Nat} (h : fr pC q0 M M') : kpV M M' d c := fun l i _ _ => congrFun (h.2.1 _ id) i
theorem kpVr_fr {M M' : x_m} {d c : Nat} (h : fr pR q0 M M') : kpVr M M' d c := fun j _ => congrFun (h.2.1 _ id) j
theorem Zl_fr {M R M' R' : x_m} {n : Nat} {Q Q' : Nat → Prop} (h : Zl M R n) (f : fr pC Q M M') (g : fr pR Q' R R') (q2 : ¬ Q 2) (q6 : ¬ Q 6) (q7 : ¬ Q 7) (r8 : ¬ Q' 388) (r3 : ¬ Q' 393) (r4 : ¬ Q' 394) (h5 : Fz M' R') : Zl M' R' n := by
  obtain ⟨a1, a2, a3, a4, a5, a6, a7, a8, a9⟩ := h
  refine ⟨a1, (f.1 1 1 (by unfold pC; omega)).trans a2, ?_, (g.1 387 4 (by unfold pR; omega)).trans a4, ?_, h5, ?_, ?_, ?_⟩
  · rw [f.2.1 2 q2]; exact a3
  · rw [f.2.1 2 q2, g.2.1 388 r8]; exact a5
  · rw [f.2.1 6 q6, g.2.1 393 r3]; exact a7
  · rw [f.2.1 7 q7, g.2.1 394 r4]; exact a8
  · rw [f.2.1 7 q7]; exact a9
theorem mem179 (K56 : Int32 → Int32 → Int32 → x_m → Option x_m) (K114 : Int32 → Int32 → Int32 → Int32 → Int32 → x_m → Option x_m) (l1 l2 l5 l6 : Int32) (m : x_m) : B_MD_member_179 K56 K114 l1 l2 l5 l6 m = (F_MD_read m).bind (fun r => sep2 (rSg 6) (fun fl m => K114 l1 l2 l5 (l6 + 1) fl m) r) := rfl
theorem mem293 (K56 : Int32 → Int32 → Int32 → x_m → Option x_m) (l1 l2 : Int32) (m : x_m) : B_MD_member_293 K56 l1 l2 m = (F_MD_read m).bind (fun r => sep2 (rSg 8) (fun fl m => K56 l1 (l2 + 1) fl m) r) := rfl
theorem mem114_end (K56 : Int32 → Int32 → Int32 → x_m → Option x_m) (f : Nat) (l1 l2 l5 l6 : Int32) (m : x_m) (h : 0 < m.1 387 5) : B_MD_member_114 K56 (f + 1) l1 l2 l5 l6 0 m = B_MD_member_293 K56 l1 l2 m := by
  rw [B_MD_member_114, if_pos rfl, if_neg (ne_pos h)]
theorem mem_tail (g d : Nat) (hd : d < 8) (l2 : Int32) (m : x_m) (h : 0 < m.1 387 5) : B_MD_member_293 (B_MD_member_56 (g + 1)) (xI d) l2 m = some m := by
  rw [mem293, F_MD_read_f m h, Option.bind_some, sep2_f _ _ _ (ne_pos h), B_MD_member_56, if_pos rfl, if_neg (ne_pos h)]
  unfold B_MD_member_370
  rw [xI_ix (by omega), if_pos (show decide (d < 8) = true by simp; omega), if_pos (show decide (d < 8) = true by simp; omega), xI_cl (by omega)]
  unfold x_wA
  rw [x_u2_same]
theorem F_DM_prepare_eq (p : Nat) {l r : Nat} (v : Int32) (m : x_m) (hl : l ≤ 20000) (hr : r < 1000) : F_DM_prepare p (xI l) (xI r) v m = some (if l < 4 then x_wA m (p + 2 + l) r v else m) := by
  unfold F_DM_prepare B_DM_prepare_21
  simp only [show (4 ≤ xI l) = (4 ≤ l) from xI_le (a := 4) (by omega) (by omega), show (1000 ≤ xI r) = (1000 ≤ r) from xI_le (a := 1000) (by omega) (by omega)]
  rw [xI_ix (by omega), xI_ix (by omega), xI_cl (by omega), xI_cl (by omega)]
  by_cases h : l < 4
  · rw [if_neg (show ¬ 4 ≤ l by omega), if_neg (show ¬ 1000 ≤ r by omega), if_pos (show decide (l < 4) = true by simp; omega), if_pos (show decide (r < 1000) = true by simp; omega), if_pos h]
  · rw [if_pos (show 4 ≤ l by omega), if_neg h]
theorem ls_values {n d r L : Nat} (hd : d < 8) (hr : r < 1000) (hL : L ≤ 4) (K56 : Int32 → Int32 → Int32 → x_m → Option x_m) (l5 : Int32) : ∀ (w : Nat) (M R : x_m) (k s e lv f g : Nat), n - e < w → Zl M R n → R.2.1 389 d = xI L → lv ≤ e → e ≤ n → w ≤ f → w < g →
    (∀ l, l < lv → l < L → M.2.1 (11 + 13 * d + l) r = R.2.1 391 (4000 * d + 4 * r + l)) →
    (∃ M' R' s' e' c g', 1 ≤ c ∧ c ≤ e' ∧ B_CG_readValues_2 (9 + 13 * d) f (xI r) (xI lv) (ct M k s e) = some (xI c, ct M' 6 s' e') ∧ B_MD_member_114 K56 g (xI d) (xI r) l5 (xI lv) 1 (rt R k s e) = B_MD_member_114 K56 (g' + 1) (xI d) (xI r) l5 (xI c) 0 (rt R' 6 s' e') ∧ Zl M' R' n ∧ fr pC (qV d) M M' ∧ fr pR qVr R R' ∧ kpV M M' d r ∧ kpVr R R' d r ∧ (∀ l, l < c → l < L → M'.2.1 (11 + 13 * d + l) r = R'.2.1 391 (4000 * d + 4 * r + l)) ∧ e' ≤ n ∧ e < e') ∨
    (∃ mc mr, B_CG_readValues_2 (9 + 13 * d) f (xI r) (xI lv) (ct M k s e) = some (0, mc) ∧ B_MD_member_114 K56 g (xI d) (xI r) l5 (xI lv) 1 (rt R k s e) = B_MD_member_293 K56 (xI d) (xI r) mr ∧ Flt mc mr ∧ fr pC (qV d) M mc ∧ fr pR qVr R mr ∧ kpV M mc d r ∧ kpVr R mr d r) := by
  intro w
  induction w with
  | zero => intro M R k s e lv f g hw; exact absurd hw (Nat.not_lt_zero _)
  | succ w ih =>
    intro M R k s e lv f g hw hz hlv0 hle he hf hg hrow
    cases f with
    | zero => omega
    | succ f =>
    cases g with
    | zero => omega
    | succ g =>
    cases g with
    | zero => omega
    | succ g =>
    have hn := hz.1
    have hC : B_CG_readValues_2 (9 + 13 * d) (f + 1) (xI r) (xI lv) (ct M k s e) = (F_LX_next (x_N + 2) (ct M k s e)).bind fun r15 => (if r15.1 = 0 then some (0, r15.2) else ((F_DM_prepare (9 + 13 * d) (xI lv) (xI r) (r15.2.1 3 4) r15.2).bind fun r33 => ((F_LX_advance r33).bind fun r40 => (if x_kv (r40.2.2.1 3 1) = true then (if (r40.2.2.1 3 1) = (x_N + 6) then some (xI lv + 1, r40) else ((F_LX_at (x_N + 7) r40).bind fun r67 => (if r67.1 = 0 then some (0, r67.2) else (B_CG_readValues_2 (9 + 13 * d) f) (xI r) (xI lv + 1) r67.2))) else none)))) := by
      rw [B_CG_readValues_2, if_neg (by show ¬ (xI 65536 < _); rw [xI_lt (by omega) (by omega)]; omega)]
    have hR : B_MD_member_114 K56 (g + 1 + 1) (xI d) (xI r) l5 (xI lv) 1 (rt R k s e) = (F_MD_read (rt R k s e)).bind fun r120 => (nmust r120).bind fun r137 => (if r137.1 = 0 then B_MD_member_179 K56 (B_MD_member_114 K56 (g + 1)) (xI d) (xI r) l5 (xI lv) r137.2 else (if x_ix (xI d) 8 = true then (if (r137.2.2.1 389 (xI d).toNatClampNeg) ≤ xI lv then B_MD_member_179 K56 (B_MD_member_114 K56 (g + 1)) (xI d) (xI r) l5 (xI lv) r137.2 else (if x_ix (((4000 * xI d) + (4 * xI r)) + xI lv) 32000 = true then B_MD_member_179 K56 (B_MD_member_114 K56 (g + 1)) (xI d) (xI r) l5 (xI lv) (x_wA r137.2 391 (((4000 * xI d) + (4 * xI r)) + xI lv).toNatClampNeg (r137.2.1 387 11)) else none)) else none)) := by
      rw [B_MD_member_114, if_neg (show ¬ (1 : Int32) = 0 by decide)]
      congr 1
      funext x
      unfold nmust B_MD_member_137
      split <;> rfl
    rw [hC, hR]
    rcases ls_num hz (k := k) (s := s) he with ⟨M1, R1, s1, e1, h1, h2, h3, h4, h5, h6, h7, h8, h9, h10⟩ | ⟨mc, mr, mr', h1, h2, h3, h4, h5, h6⟩
    · rw [h1, h2, Option.bind_some, Option.bind_some, h3, Option.bind_some]
      simp only [show ((1 : Int32) = 0) = False from by decide, if_false]
      rw [F_DM_prepare_eq _ _ _ (by omega) hr, Option.bind_some]
      rw [xI_ix (by omega), if_pos (show decide (d < 8) = true by simp; omega), xI_cl (by omega), show (rt R1 2 s1 e1).2.1 389 d = xI L from (congrFun (h7.2.1 389 id) d).trans hlv0]
      rw [show (4000 : Int32) * xI d = xI (4000 * d) from xI_mul 4000 d, show (4 : Int32) * xI r = xI (4 * r) from xI_mul 4 r, xI_add, xI_add]
      simp only [xI_le (a := L) (b := lv) (by omega) (by omega)]
      -- the memories behind the write
      have hwr : ∃ M2 R2, (if lv < 4 then x_wA (ct M1 2 s1 e1) (9 + 13 * d + 2 + lv) r ((ct M1 2 s1 e1).1 3 4) else ct M1 2 s1 e1) = ct M2 2 s1 e1 ∧ (if L ≤ lv then B_MD_member_179 K56 (B_MD_member_114 K56 (g + 1)) (xI d) (xI r) l5 (xI lv) (rt R1 2 s1 e1) else (if x_ix (xI (4000 * d + 4 * r + lv)) 32000 = true then B_MD_member_179 K56 (B_MD_member_114 K56 (g + 1)) (xI d) (xI r) l5 (xI lv) (x_wA (rt R1 2 s1 e1) 391 (xI (4000 * d + 4 * r + lv)).toNatClampNeg ((rt R1 2 s1 e1).1 387 11)) else none)) = B_MD_member_179 K56 (B_MD_member_114 K56 (g + 1)) (xI d) (xI r) l5 (xI lv) (rt R2 2 s1 e1) ∧ Zl M2 R2 n ∧ fr pC (qV d) M1 M2 ∧ fr pR qVr R1 R2 ∧ kpV M1 M2 d r ∧ kpVr R1 R2 d r ∧ (∀ l, l < lv + 1 → l < L → M2.2.1 (11 + 13 * d + l) r = R2.2.1 391 (4000 * d + 4 * r + l)) := by
        have hrow1 : ∀ l, l < lv → l < L → M1.2.1 (11 + 13 * d + l) r = R1.2.1 391 (4000 * d + 4 * r + l) := by
          intro l a b
          rw [congrFun (h6.2.1 _ id) r, congrFun (h7.2.1 _ id) _]
          exact hrow l a b
        have cls : ∃ M2, (if lv < 4 then x_wA (ct M1 2 s1 e1) (9 + 13 * d + 2 + lv) r ((ct M1 2 s1 e1).1 3 4) else ct M1 2 s1 e1) = ct M2 2 s1 e1 ∧ fr pC (qV d) M1 M2 ∧ kpV M1 M2 d r ∧ (∀ l, l < 4 → M2.2.1 (11 + 13 * d + l) r = if l = lv then M1.1 3 4 else M1.2.1 (11 + 13 * d + l) r) ∧ M2.1 = M1.1 := by
          by_cases h4' : lv < 4
          · rw [if_pos h4']
            refine ⟨x_wA M1 (9 + 13 * d + 2 + lv) r (M1.1 3 4), rfl, fr_wA _ _ _ _ (by unfold qV; omega), fun l i hl hi => ?_, fun l hl => ?_, rfl⟩
            · show (if 11 + 13 * d + l = 9 + 13 * d + 2 + lv ∧ i = r then _ else _) = _
              rw [if_neg (by omega)]
            · show (if 11 + 13 * d + l = 9 + 13 * d + 2 + lv ∧ r = r then _ else _) = _
              by_cases el : l = lv
              · rw [if_pos (by omega), if_pos el]
              · rw [if_neg (by omega), if_neg el]
          · rw [if_neg h4']
            refine ⟨M1, rfl, fr_refl _ _ _, fun _ _ _ _ => rfl, fun l hl => ?_, rfl⟩
            rw [if_neg (by omega)]
        obtain ⟨M2, c1, c2, c3, c4, c5⟩ := cls
        have fz : Fz M2 R1 := by
          have := Zl_f h5
          unfold Fz at *
          rw [c5]; exact this
        by_cases hLl : L ≤ lv
        · rw [if_pos hLl]
          refine ⟨M2, R1, c1, rfl, ?_, c2, fr_refl _ _ _, c3, fun _ _ => rfl, fun l a b => ?_⟩
          · exact Zl_fr h5 c2 (fr_refl pR q0 R1) (by unfold qV; omega) (by unfold qV; omega) (by unfold qV; omega) id id id fz
          · rw [c4 l (by omega), if_neg (by omega)]; exact hrow1 l (by omega) b
        · rw [if_neg hLl, xI_ix (by omega), if_pos (show decide (4000 * d + 4 * r + lv < 32000) = true by simp; omega), xI_cl (by omega)]
          have fR : fr pR qVr R1 (x_wA R1 391 (4000 * d + 4 * r + lv) (R1.1 387 11)) := fr_wA _ _ _ _ rfl
          refine ⟨M2, x_wA R1 391 (4000 * d + 4 * r + lv) (R1.1 387 11), c1, rfl, ?_, c2, fR, c3, fun j hj => ?_, fun l a b => ?_⟩
          · exact Zl_fr h5 c2 fR (by unfold qV; omega) (by unfold qV; omega) (by unfold qV; omega) (by unfold qVr; omega) (by unfold qVr; omega) (by unfold qVr; omega) fz
          · show (if 391 = 391 ∧ j = 4000 * d + 4 * r + lv then _ else _) = _
            rw [if_neg (by omega)]
          · rw [c4 l (by omega)]
            show _ = if 391 = 391 ∧ 4000 * d + 4 * r + l = 4000 * d + 4 * r + lv then _ else _
            by_cases el : l = lv
            · rw [if_pos el, if_pos (by omega), h4]
            · rw [if_neg el, if_neg (by omega)]; exact hrow1 l (by omega) b
      obtain ⟨M2, R2, w1, w2, w3, w4, w5, w6, w7, w8⟩ := hwr
      rw [w1, w2]
      have lv2 : R2.2.1 389 d = xI L := (congrFun (w5.2.1 389 (by unfold qVr; omega)) d).trans ((congrFun (h7.2.1 389 id) d).trans hlv0)
      obtain ⟨M3, R3, mr3, k3, s3, e3, i1, i2, i3, i4, i5, i6, i7, i8, i9⟩ := step2 w3 (k := 2) (s := s1) h8
      obtain ⟨u1, u2, u3, u4, u5, u6, u7⟩ := i7
      rw [i1, Option.bind_some, mem179, i2, Option.bind_some]
      obtain ⟨x7, x6, xo⟩ := sep2_eq (fun fl m => B_MD_member_114 K56 (g + 1) (xI d) (xI r) l5 (xI lv + 1) fl m) i3 (Zl_5 i4) u4 (Or.inl rfl : (6 = 6 ∨ 6 = 8))
      rw [show (ct M3 k3 s3 e3).2.2.1 3 1 = kRf k3 from rfl, if_pos (kRf_kv u4)]
      simp only [kRf_is (j := 6) u4 (by omega) (by omega)]
      rw [F_LX_at_eq M3 u4 (by omega) (by omega)]
      by_cases k6 : k3 = 6
      · left
        rw [if_pos k6, x6 k6]
        obtain ⟨eM, eR⟩ := i9 (by omega) (by omega)
        subst eM; subst eR; subst k6
        have := u5 (by omega)
        exact ⟨M3, R3, s3, e3, lv + 1, g, by omega, by omega, by rw [xI_add1], by rw [xI_add1], w3, fr_trans (up1 h6) w4, fr_trans (up1r h7) w5, kpV_trans (kpV_fr h6) w6 (Nat.le_refl _), kpVr_trans (kpVr_fr h7) w7 (Nat.le_refl _), w8, u2, by omega⟩
      · rw [if_neg k6]
        by_cases k7 : k3 = 7
        · rw [if_pos k7, x7 k7, Option.bind_some]
          simp only [show ((1 : Int32) = 0) = False from by decide, if_false]
          obtain ⟨eM, eR⟩ := i9 (by omega) (by omega)
          subst eM; subst eR; subst k7
          have := u5 (by omega)
          rw [xI_add1]
          rcases ih M3 R3 7 s3 e3 (lv + 1) f (g + 1) (by omega) w3 lv2 (by omega) u2 (by omega) (by omega) w8 with ⟨M', R', s', e', c, g', j1, j2, j3, j4, j5, j6, j7, j8, j9, j10, j11, j12⟩ | ⟨mc, mr, j1, j2, j3, j4, j5, j6, j7⟩
          · left
            exact ⟨M', R', s', e', c, g', j1, j2, j3, j4, j5, fr_trans (up1 h6) (fr_trans w4 j6), fr_trans (up1r h7) (fr_trans w5 j7), kpV_trans (kpV_fr h6) (kpV_trans w6 j8 (Nat.le_refl _)) (Nat.le_refl _), kpVr_trans (kpVr_fr h7) (kpVr_trans w7 j9 (Nat.le_refl _)) (Nat.le_refl _), j10, j11, by omega⟩
          · right
            exact ⟨mc, mr, j1, j2, j3, fr_trans (up1 h6) (fr_trans w4 j4), fr_trans (up1r h7) (fr_trans w5 j5), kpV_trans (kpV_fr h6) (kpV_trans w6 j6 (Nat.le_refl _)) (Nat.le_refl _), kpVr_trans (kpVr_fr h7) (kpVr_trans w7 j7 (Nat.le_refl _)) (Nat.le_refl _)⟩
        · right
          obtain ⟨mr', y1, y2, y3, y4⟩ := xo k7 k6
          rw [if_neg k7, Option.bind_some]
          simp only [if_true]
          have hp : 0 < mr'.1 387 5 := by rw [y2]; exact kUn_pos k3
          have fc := fr_trans i5 (fr_trans (fr_ct M3 k3 s3 e3) (fr_cf _ (kUn k3) (xI s3)))
          refine ⟨cf (ct M3 k3 s3 e3) (kUn k3) (xI s3), mr', rfl, ?_, ⟨by rw [y2]; rfl, by rw [y3]; rfl, hp⟩, fr_trans (up1 h6) (fr_trans w4 (up1 fc)), fr_trans (up1r h7) (fr_trans w5 (up1r (fr_trans i6 y4))), kpV_trans (kpV_fr h6) (kpV_trans w6 (kpV_fr fc) (Nat.le_refl _)) (Nat.le_refl _), kpVr_trans (kpVr_fr h7) (kpVr_trans w7 (kpVr_fr (fr_trans i6 y4)) (Nat.le_refl _)) (Nat.le_refl _)⟩
          rw [y1]; exact mem114_end K56 g _ _ _ _ _ hp
    · right
      rw [h1, h2, Option.bind_some, Option.bind_some, h3, Option.bind_some]
      simp only [if_true]
      refine ⟨mc, mr', rfl, ?_, h4, up1 h5, up1r h6, kpV_fr h5, kpVr_fr h6⟩
      rw [mem179, F_MD_read_f _ h4.2.2, Option.bind_some, sep2_f _ _ _ (ne_pos h4.2.2)]
      exact mem114_end K56 g _ _ _ _ _ h4.2.2

theorem kpV_Vc {M M' : x_m} {d c l i : Nat} (h : kpV M M' d c) (hl : l < 4) (hi : i < c) : Vc M' (9 + 13 * d) l i = Vc M (9 + 13 * d) l i := by
  unfold Vc
  rw [show 9 + 13 * d + 2 + l = 11 + 13 * d + l by omega]
  exact h l i hl hi
theorem gRows_congr {V W : Nat → Nat → Int32} {L r : Nat} (hL : 1 ≤ L) (h : gRows V L r) (e : ∀ l i, l < L → i < r → V l i = W l i) : gRows W L r := by
  intro i j hi hj hij
  obtain ⟨a, b⟩ := h i j hi hj hij
  refine ⟨?_, fun l1 l2 x y w => ?_⟩
  · rw [← e 0 i (by omega) hi, ← e 0 j (by omega) hj]; exact a
  · rw [← e l2 i (by omega) hi, ← e l2 j (by omega) hj]
    exact b l1 l2 x y (by rw [e l1 i (by omega) hi, e l1 j (by omega) hj]; exact w)
/-- rows are the same on both sides -/
def VR (M R : x_m) (d L r : Nat) : Prop := ∀ l i, l < L → i < r → M.2.1 (11 + 13 * d + l) i = R.2.1 391 (4000 * d + 4 * i + l)
theorem VR_kp {M R M' R' : x_m} {d L r c : Nat} (hL : L ≤ 4) (hr : r ≤ 1000) (h : VR M R d L r) (k : kpV M M' d c) (k' : kpVr R R' d c) (hc : r ≤ c) : VR M' R' d L r := by
  intro l i hl hi
  rw [k l i (by omega) (by omega), k' _ (by omega)]
  exact h l i hl hi
theorem ls_rows {n d L : Nat} (hd : d < 8) (hL1 : 1 ≤ L) (hL : L ≤ 4) : ∀ (w : Nat) (M R : x_m) (k s e r f g : Nat), n - e < w → Zl M R n → M.1 (9 + 13 * d) 0 = xI L → R.2.1 389 d = xI L → r ≤ 1000 → e ≤ n → w ≤ f → w < g → gRows (Vc M (9 + 13 * d)) L r → VR M R d L r →
    (∃ M' R' s' e' r', r < r' ∧ r' ≤ 1000 ∧ B_CG_readMembers_42 f (9 + 13 * d) (xI r) (ct M k s e) = some (1, ct (x_wS M' (9 + 13 * d) 1 (xI r')) 8 s' e') ∧ B_MD_member_56 g (xI d) (xI r) 1 (rt R k s e) = some (rt (x_wA R' 390 d (xI r')) 8 s' e') ∧ Zl M' R' n ∧ fr pC (qV d) M M' ∧ fr pR qVr R R' ∧ kpV M M' d r ∧ kpVr R R' d r ∧ gRows (Vc M' (9 + 13 * d)) L r' ∧ VR M' R' d L r' ∧ e' ≤ n ∧ e < e') ∨
    (∃ mc mr, B_CG_readMembers_42 f (9 + 13 * d) (xI r) (ct M k s e) = some (0, mc) ∧ B_MD_member_56 g (xI d) (xI r) 1 (rt R k s e) = some mr ∧ Flt mc mr ∧ fr pC (qV d) M mc ∧ fr pR qVr R mr ∧ kpV M mc d r ∧ kpVr R mr d r) := by
  intro w
  induction w with
  | zero => intro M R k s e r f g hw; exact absurd hw (Nat.not_lt_zero _)
  | succ w ih =>
    intro M R k s e r f g hw hz h0 h389 hr he hf hg hgr hvr
    cases f with
    | zero => omega
    | succ f =>
    cases g with
    | zero => omega
    | succ g =>
    cases g with
    | zero => omega
    | succ g =>
    have hn := hz.1
    rw [B_CG_readMembers_42, if_neg (by show ¬ (xI 1000 < _); rw [xI_lt (by omega) (by omega)]; omega)]
    rw [B_MD_member_56, if_neg (show ¬ (1 : Int32) = 0 by decide)]
    rcases ls_next hz (k := k) (s := s) (e := e) (j := 5) he (by omega) (by omega) with ⟨s1, e1, c1, c2, c3, c4, c5, c6⟩ | ⟨mc, mr2, c1, c2, c3, c4, c5⟩
    · rw [c1, Option.bind_some, show F_MD_needSign 40 (rt R k s e) = _ from c2, Option.bind_some]
      simp only [show ((1 : Int32) = 0) = False from by decide, if_false, show (1000 ≤ xI r) = (1000 ≤ r) from xI_le (a := 1000) (by omega) (by omega)]
      unfold F_CG_readMember
      simp only [show (xI r < 1000) = (r < 1000) from xI_lt (b := 1000) (by omega) (by omega)]
      unfold B_MD_member_82 B_MD_member_98 B_MD_member_99
      by_cases hr0 : r < 1000
      · rw [if_pos hr0, if_neg (show ¬ 1000 ≤ r by omega), F_MD_want_1 (rt R 5 s1 e1) _ _ (Zl_5 hz), Option.bind_some]
        simp only [show ((1 : Int32) = 0) = False from by decide, if_false]
        rw [show (rt R 5 s1 e1).1 387 8 = xI s1 from rfl, show (ct M 5 s1 e1).1 3 2 = xI s1 from rfl]
        unfold F_CG_readValues
        rcases ls_values hd hr0 hL (B_MD_member_56 (g + 1)) (xI s1) 20001 M R 5 s1 e1 0 x_fu x_fu (by omega) hz h389 (by omega) c4 (by unfold x_fu; omega) (by unfold x_fu; omega) (fun l a => by omega) with ⟨M2, R2, s2, e2, c, g', j1, j2, j3, j4, j5, j6, j7, j8, j9, j10, j11, j12⟩ | ⟨mc, mr, j1, j2, j3, j4, j5, j6, j7⟩
        · rw [show B_CG_readValues_2 (9 + 13 * d) x_fu (xI r) 0 (ct M 5 s1 e1) = _ from j3, Option.bind_some, show B_MD_member_114 (B_MD_member_56 (g + 1)) x_fu (xI d) (xI r) (xI s1) 0 1 (rt R 5 s1 e1) = _ from j4]
          simp only [show (xI c = 0) = (c = 0) from xI_eq (b := 0) (by omega) (by omega)]
          have h02 : M2.1 (9 + 13 * d) 0 = xI L := (j6.1 _ _ (by unfold pC; omega)).trans h0
          have hl2 : R2.2.1 389 d = xI L := (congrFun (j7.2.1 389 (by unfold qVr; omega)) d).trans h389
          rw [if_neg (show ¬ c = 0 by omega), B_MD_member_114, if_pos rfl, if_pos (show (rt R2 6 s2 e2).1 387 5 = 0 from Zl_5 j5), xI_ix (by omega), if_pos (show decide (d < 8) = true by simp; omega), xI_cl (by omega), show (rt R2 6 s2 e2).2.1 389 d = xI L from hl2]
          rw [show (ct M2 6 s2 e2).1 (9 + 13 * d) 0 = xI L from (show (if 9 + 13 * d = 3 then _ else M2.1 (9 + 13 * d) 0) = xI L by rw [if_neg (by omega)]; exact h02)]
          simp only [xI_eq (a := c) (b := L) (by omega) (by omega)]
          unfold B_MD_member_259
          by_cases hcL : c = L
          · rw [if_pos hcL, if_pos hcL, F_MD_want_1 (rt R2 6 s2 e2) _ _ (Zl_5 j5), Option.bind_some]
            simp only [show ((1 : Int32) = 0) = False from by decide, if_false]
            rw [F_DM_fits_eq (m := ct M2 6 s2 e2) hr0 hL (show (if 9 + 13 * d = 3 then _ else M2.1 (9 + 13 * d) 0) = xI L by rw [if_neg (by omega)]; exact h02), Option.bind_some, F_MD_goes_eq (m := rt R2 6 s2 e2) hd hr0 hL hl2, Option.bind_some]
            have hv2 : VR M2 R2 d L (r + 1) := by
              intro l i hl hi
              by_cases ei : i = r
              · rw [ei]; exact j10 l (by omega) hl
              · exact VR_kp hL (by omega) hvr j8 j9 (Nat.le_refl r) l i hl (by omega)
            have hg2 : gRows (Vc M2 (9 + 13 * d)) L r := gRows_congr hL1 hgr (fun l i a b => (kpV_Vc j8 (by omega) b).symm)
            have hVV : ∀ l i, l < L → i ≤ r → Vc M2 (9 + 13 * d) l i = Vr R2 d l i := by
              intro l i a b
              unfold Vc Vr
              rw [show 9 + 13 * d + 2 + l = 11 + 13 * d + l by omega]
              exact hv2 l i a (by omega)
            have same := fit_goA (Vc M2 (9 + 13 * d)) (Vr R2 d) L r hL1 hg2 hVV
            rw [show Vc (ct M2 6 s2 e2) = Vc M2 from rfl, show Vr (rt R2 6 s2 e2) = Vr R2 from rfl, same]
            simp only [bI_0]
            by_cases ok : goA (Vr R2 d) L r r 0 = true
            · rw [ok]
              simp only [show ((true : Bool) = false) = False from by simp, if_false, show bI true = 1 from rfl]
              rw [F_MD_want_1 (rt R2 6 s2 e2) _ _ (Zl_5 j5), Option.bind_some]
              simp only [show ((1 : Int32) = 0) = False from by decide, if_false]
              have hg3 : gRows (Vc M2 (9 + 13 * d)) L (r + 1) := gRows_succ hg2 ((fit_iff (Vc M2 (9 + 13 * d)) L r hg2 L 0 (by omega) (fun l' j a => by omega) (by omega)).mp (by rw [same]; exact ok))
              unfold B_CG_readMember_82 B_CG_readMember_87 B_MD_member_291
              rw [if_pos (show x_b1 1 = true by decide), Option.bind_some]
              simp only [show ((1 : Int32) = 0) = False from by decide, if_false]
              obtain ⟨M3, R3, mr3, k3, s3, e3, i1, i2, i3, i4, i5, i6, i7, i8, i9⟩ := step2 j5 (k := 6) (s := s2) j11
              obtain ⟨u1, u2, u3, u4, u5, u6, u7⟩ := i7
              rw [i1, Option.bind_some, mem293, i2, Option.bind_some]
              obtain ⟨x7, x8, xo⟩ := sep2_eq (fun fl m => B_MD_member_56 (g + 1) (xI d) (xI r + 1) fl m) i3 (Zl_5 i4) u4 (Or.inr rfl : (8 = 6 ∨ 8 = 8))
              rw [show (ct M3 k3 s3 e3).2.2.1 3 1 = kRf k3 from rfl, if_pos (kRf_kv u4)]
              simp only [kRf_is (j := 8) u4 (by omega) (by omega)]
              rw [F_LX_at_eq M3 u4 (by omega) (by omega)]
              by_cases k8 : k3 = 8
              · left
                rw [if_pos k8, x8 k8]
                obtain ⟨eM, eR⟩ := i9 (by omega) (by omega)
                subst eM; subst eR; subst k8
                have := u5 (by omega)
                refine ⟨M3, R3, s3, e3, r + 1, by omega, by omega, ?_, ?_, j5, j6, j7, j8, j9, hg3, hv2, u2, by omega⟩
                · rw [ct_wS _ _ _ _ _ (by omega), xI_add1]
                · rw [B_MD_member_56, if_pos rfl, if_pos (show (rt R3 8 s3 e3).1 387 5 = 0 from Zl_5 j5)]
                  unfold B_MD_member_370
                  rw [xI_ix (by omega), if_pos (show decide (d < 8) = true by simp; omega), xI_cl (by omega), xI_add1]
                  rfl
              · rw [if_neg k8]
                by_cases k7 : k3 = 7
                · rw [if_pos k7, x7 k7, Option.bind_some]
                  simp only [show ((1 : Int32) = 0) = False from by decide, if_false]
                  obtain ⟨eM, eR⟩ := i9 (by omega) (by omega)
                  subst eM; subst eR; subst k7
                  have := u5 (by omega)
                  rw [xI_add1]
                  rcases ih M3 R3 7 s3 e3 (r + 1) f (g + 1) (by omega) j5 h02 hl2 (by omega) u2 (by omega) (by omega) hg3 hv2 with ⟨M', R', s', e', r', v1, v2, v3, v4, v5, v6, v7, v8, v9, v10, v11, v12, v13⟩ | ⟨mc, mr, v1, v2, v3, v4, v5, v6, v7⟩
                  · left
                    exact ⟨M', R', s', e', r', by omega, v2, v3, v4, v5, fr_trans j6 v6, fr_trans j7 v7, kpV_trans j8 v8 (by omega), kpVr_trans j9 v9 (by omega), v10, v11, v12, by omega⟩
                  · right
                    exact ⟨mc, mr, v1, v2, v3, fr_trans j6 v4, fr_trans j7 v5, kpV_trans j8 v6 (by omega), kpVr_trans j9 v7 (by omega)⟩
                · right
                  obtain ⟨mr', y1, y2, y3, y4⟩ := xo k7 k8
                  rw [if_neg k7, Option.bind_some]
                  simp only [if_true]
                  have hp : 0 < mr'.1 387 5 := by rw [y2]; exact kUn_pos k3
                  have fc := fr_trans i5 (fr_trans (fr_ct M3 k3 s3 e3) (fr_cf _ (kUn k3) (xI s3)))
                  refine ⟨cf (ct M3 k3 s3 e3) (kUn k3) (xI s3), mr', rfl, ?_, ⟨by rw [y2]; rfl, by rw [y3]; rfl, hp⟩, fr_trans j6 (up1 fc), fr_trans j7 (up1r (fr_trans i6 y4)), kpV_trans j8 (kpV_fr fc) (Nat.le_refl _), kpVr_trans j9 (kpVr_fr (fr_trans i6 y4)) (Nat.le_refl _)⟩
                  rw [y1, B_MD_member_56, if_pos rfl, if_neg (ne_pos hp)]
                  unfold B_MD_member_370
                  rw [xI_ix (by omega), if_pos (show decide (d < 8) = true by simp; omega), if_pos (show decide (d < 8) = true by simp; omega), xI_cl (by omega)]
                  unfold x_wA
                  rw [x_u2_same]
            · right
              have ok' : goA (Vr R2 d) L r r 0 = false := by simpa using ok
              rw [ok']
              simp only [if_true, show bI false = 0 from rfl]
              rw [F_MD_want_0 (rt R2 6 s2 e2) 9 _ (Zl_5 j5) (by decide), Option.bind_some]
              simp only [if_true]
              unfold B_MD_member_290 B_MD_member_291
              have f1 := fr_trans (fr_ct M2 6 s2 e2) (fr_cf _ 9 (xI s1))
              have f2 := fr_trans (fr_rt R2 6 s2 e2) (fr_rf _ 9 (xI s1))
              exact ⟨_, _, rfl, mem_tail g d hd _ _ (show (0 : Int32) < 9 by decide), Flt_cr _ _ _ _ (by decide), fr_trans j6 (up1 f1), fr_trans j7 (up1r f2), kpV_trans j8 (kpV_fr f1) (Nat.le_refl _), kpVr_trans j9 (kpVr_fr f2) (Nat.le_refl _)⟩
          · right
            rw [if_neg hcL, if_neg hcL, F_MD_want_0 (rt R2 6 s2 e2) 7 _ (Zl_5 j5) (by decide), Option.bind_some]
            simp only [if_true]
            unfold B_MD_member_290 B_MD_member_291
            have f1 := fr_trans (fr_ct M2 6 s2 e2) (fr_cf _ 7 (xI s1))
            have f2 := fr_trans (fr_rt R2 6 s2 e2) (fr_rf _ 7 (xI s1))
            exact ⟨_, _, rfl, mem_tail g d hd _ _ (show (0 : Int32) < 7 by decide), Flt_cr _ _ _ _ (by decide), fr_trans j6 (up1 f1), fr_trans j7 (up1r f2), kpV_trans j8 (kpV_fr f1) (Nat.le_refl _), kpVr_trans j9 (kpVr_fr f2) (Nat.le_refl _)⟩
        · right
          rw [show B_CG_readValues_2 (9 + 13 * d) x_fu (xI r) 0 (ct M 5 s1 e1) = _ from j1, Option.bind_some, show B_MD_member_114 (B_MD_member_56 (g + 1)) x_fu (xI d) (xI r) (xI s1) 0 1 (rt R 5 s1 e1) = _ from j2]
          exact ⟨mc, mr, rfl, mem_tail g d hd _ _ j3.2.2, j3, j4, j5, j6, j7⟩
      · right
        rw [if_neg hr0, if_pos (show 1000 ≤ r by omega), F_MD_want_0 (rt R 5 s1 e1) 7 _ (Zl_5 hz) (by decide), Option.bind_some]
        simp only [if_true]
        have f1 := fr_trans (fr_ct M 5 s1 e1) (fr_cf _ 7 (xI s1))
        have f2 := fr_trans (fr_rt R 5 s1 e1) (fr_rf _ 7 (xI s1))
        refine ⟨_, rf (rt R 5 s1 e1) 7 (xI s1), rfl, ?_, Flt_cr _ _ _ _ (by decide), up1 f1, up1r f2, kpV_fr f1, kpVr_fr f2⟩
        rw [show (rt R 5 s1 e1).1 387 8 = xI s1 from rfl, show x_fu = 199999 + 1 from rfl, mem114_end _ 199999 _ _ _ _ _ (show (0 : Int32) < 7 by decide)]
        exact mem_tail g d hd _ _ (show (0 : Int32) < 7 by decide)
    · right
      rw [c1, Option.bind_some, show F_MD_needSign 40 (rt R k s e) = _ from c2, Option.bind_some]
      simp only [if_true]
      unfold B_MD_member_98 B_MD_member_99
      refine ⟨mc, mr2, rfl, ?_, c3, up1 c4, up1r c5, kpV_fr c4, kpVr_fr c5⟩
      rw [show x_fu = 199999 + 1 from rfl, mem114_end _ 199999 _ _ _ _ _ c3.2.2]
      exact mem_tail g d hd _ _ c3.2.2
