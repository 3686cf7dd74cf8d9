/-! dimensions and measures told -/
def qN (a : Nat) : Prop := a = 6 ∨ a = 7
def qNr (a : Nat) : Prop := a = 393 ∨ a = 394
theorem up0 {m m' : x_m} (h : fr pC q0 m m') : fr pC qN m m' := fr_mono h (fun _ _ z => z) (fun _ z => z.elim)
theorem up0r {m m' : x_m} (h : fr pR q0 m m') : fr pR qNr m m' := fr_mono h (fun _ _ z => z) (fun _ z => z.elim)
theorem fr_ckp (M : x_m) (slot s e : Nat) : fr pC qN M (ckp M slot s e) := by
  refine ⟨fun _ _ _ => rfl, fun a z => ?_, fun _ _ _ => rfl, rfl⟩
  show (if a = 6 then _ else if a = 7 then _ else _) = _
  rw [if_neg (fun y => z (Or.inl y)), if_neg (fun y => z (Or.inr y))]
theorem fr_rkp (R : x_m) (slot s e : Nat) : fr pR qNr R (rkp R slot s e) := by
  refine ⟨fun _ _ _ => rfl, fun a z => ?_, fun _ _ _ => rfl, rfl⟩
  show (if a = 393 then _ else if a = 394 then _ else _) = _
  rw [if_neg (fun y => z (Or.inl y)), if_neg (fun y => z (Or.inr y))]
theorem NK_kp {M R : x_m} (h : NK M R) (hb : R.2.1 388 = M.2.1 2) {slot s e : Nat} (h40 : e - s ≤ 40) : NK (ckp M slot s e) (rkp R slot s e) := by
  refine ⟨?_, ?_, ?_⟩
  · show nmK (R.2.1 393) (R.2.1 388) s (40 * slot) (e - s) = nmK (M.2.1 6) (M.2.1 2) s (40 * slot) (e - s)
    rw [h.1, hb]
  · show yup (R.2.1 394) slot _ = yup (M.2.1 7) slot _
    rw [h.2.1]
  · intro j
    show ∃ l, l ≤ 40 ∧ yup (M.2.1 7) slot (xI (e - s)) j = xI l
    unfold yup
    by_cases z : j = slot
    · rw [if_pos z]; exact ⟨_, h40, rfl⟩
    · rw [if_neg z]; exact h.2.2 j
theorem Zl_kp {M R : x_m} {n : Nat} (h : Zl M R n) {slot s e : Nat} (h40 : e - s ≤ 40) : Zl (ckp M slot s e) (rkp R slot s e) n :=
  ⟨h.1, h.2.1, h.2.2.1, h.2.2.2.1, h.2.2.2.2.1, h.2.2.2.2.2.1, NK_kp (Zl_nk h) h.2.2.2.2.1 h40⟩
def Zd (M R : x_m) (D Ms : Nat) : Prop := M.1 4 2 = xI D ∧ R.1 387 13 = xI D ∧ D ≤ 8 ∧ M.1 4 3 = xI Ms ∧ R.1 387 18 = xI Ms ∧ Ms ≤ 8
theorem Zd_fr {M R M' R' : x_m} {D Ms : Nat} {Q Q' : Nat → Prop} (h : Zd M R D Ms) (f : fr pC Q M M') (g : fr pR Q' R R') : Zd M' R' D Ms := by
  obtain ⟨a1, a2, a3, a4, a5, a6⟩ := h
  exact ⟨(f.1 4 2 (by unfold pC; omega)).trans a1, (g.1 387 13 (by unfold pR; omega)).trans a2, a3, (f.1 4 3 (by unfold pC; omega)).trans a4, (g.1 387 18 (by unfold pR; omega)).trans a5, a6⟩
/-- whether the name at a token is taken -/
def tkn (L ln b : Nat → Int32) (s e D Ms : Nat) : Bool := decide (nmI L ln b s e 0 D 0 ≠ -1) || decide (nmI L ln b s e 40 Ms 0 ≠ -1)
theorem F_CT_isTaken_eq {M : x_m} {k s e D Ms : Nat} (hD : M.1 4 2 = xI D) (hM : M.1 4 3 = xI Ms) (d8 : D ≤ 8) (m8 : Ms ≤ 8) (hse : s ≤ e) (he : e ≤ 20000) (h40 : e - s ≤ 40) : F_CT_isTaken (ct M k s e) = some (bI (tkn (M.2.1 6) (M.2.1 7) (M.2.1 2) s e D Ms), ct M k s e) := by
  unfold F_CT_isTaken B_CT_isTaken_35 B_CT_isTaken_40 tkn
  have s1 := F_NM_search_eq (M := M) (k := k) (first := 0) (cnt := D) (by omega) hse he h40
  have s2 := F_NM_search_eq (M := M) (k := k) (first := 40) (cnt := Ms) (by omega) hse he h40
  rw [show (ct M k s e).1 4 2 = xI D from hD, show (0 : Int32) = xI 0 from rfl, s1, Option.bind_some]
  simp only []
  rw [show (ct M k s e).1 4 3 = xI Ms from hM, show (40 : Int32) = xI 40 from rfl, s2, Option.bind_some]
  simp only []
  by_cases h1 : nmI (M.2.1 6) (M.2.1 7) (M.2.1 2) s e 0 D 0 = -1
  · rw [if_pos h1, decide_eq_false (fun z => z h1), Bool.false_or]
    by_cases h2 : nmI (M.2.1 6) (M.2.1 7) (M.2.1 2) s e 40 Ms 0 = -1
    · rw [if_pos h2, decide_eq_false (fun z => z h2)]; rfl
    · rw [if_neg h2, decide_eq_true h2]; rfl
  · rw [if_neg h1, decide_eq_true h1, Bool.true_or]; rfl
theorem F_CG_atNewName_eq {M : x_m} {n e0 k s e D Ms : Nat} {full : Bool} (hn : n ≤ 20000) (hD : M.1 4 2 = xI D) (hM : M.1 4 3 = xI Ms) (d8 : D ≤ 8) (m8 : Ms ≤ 8) (ht : TF n e0 k s e) :
    F_CG_atNewName (bI full) (ct M k s e) = if k = 3 then (if tkn (M.2.1 6) (M.2.1 7) (M.2.1 2) s e D Ms = true then some (0, cf (ct M k s e) 6 (xI s)) else if full = true then some (0, cf (ct M k s e) 7 (xI s)) else some (1, ct M k s e)) else some (0, cf (ct M k s e) (nmX k) (xI s)) := by
  obtain ⟨t1, t2, t3, t4, t5, t6, t7⟩ := ht
  unfold F_CG_atNewName B_CG_atNewName_52 B_CG_atNewName_57
  rw [F_LX_atName_eq M t4]
  by_cases h3 : k = 3
  · rw [if_pos h3, if_pos h3, Option.bind_some]
    simp only [show ((1 : Int32) = 0) = False from by decide, if_false]
    rw [F_CT_isTaken_eq hD hM d8 m8 t1 (by omega) (t6 h3), Option.bind_some]
    simp only [bI_0]
    by_cases ht : tkn (M.2.1 6) (M.2.1 7) (M.2.1 2) s e D Ms = true
    · rw [if_pos ht, if_neg (by rw [ht]; decide)]; rfl
    · rw [if_neg ht, if_pos (by simpa using ht)]
      cases full
      · rfl
      · rfl
  · rw [if_neg h3, if_neg h3]; rfl
/-- newName() of the reference behind its read() -/
def nnR (r1 : x_m) : Option (Int32 × x_m) := ((F_MD_name r1).bind fun r5 => (if r5.1 = 0 then B_MD_newName_58 r5.2 else ((F_MD_among 0 (r5.2.1 387 13) r5.2).bind fun r18 => (if 0 ≤ r18.1 then B_MD_newName_41 r18.2 else ((F_MD_among 40 (r18.2.1 387 18) r18.2).bind fun r31 => (if 0 ≤ r31.1 then B_MD_newName_41 r31.2 else B_MD_newName_42 1 r31.2))))))
theorem nnR_eq {R mr : x_m} {n e0 k s e D Ms : Nat} (hn : n ≤ 20000) (h : RS R mr k s e) (h5 : R.1 387 5 = 0) (hD : R.1 387 13 = xI D) (hM : R.1 387 18 = xI Ms) (d8 : D ≤ 8) (m8 : Ms ≤ 8) (ht : TF n e0 k s e) :
    (k = 3 → tkn (R.2.1 393) (R.2.1 394) (R.2.1 388) s e D Ms = false → nnR mr = some (1, rt R k s e)) ∧ (k = 3 → tkn (R.2.1 393) (R.2.1 394) (R.2.1 388) s e D Ms = true → nnR mr = some (0, rf (rt R k s e) 6 (xI s))) ∧ (k ≠ 3 → ∃ mr', nnR mr = some (0, mr') ∧ mr'.1 387 5 = nmX k ∧ mr'.1 387 6 = xI s ∧ fr pR q0 R mr') := by
  obtain ⟨t1, t2, t3, t4, t5, t6, t7⟩ := ht
  by_cases hb : k = 1 ∨ k = 36
  · obtain ⟨b1, b2, b3⟩ := RS_bad h hb
    refine ⟨fun z => by omega, fun z => by omega, fun _ => ⟨mr, ?_, ?_, b2, b3⟩⟩
    · unfold nnR
      rw [F_MD_name_f mr (by rw [b1]; exact kUn_ne k)]
      rfl
    · rw [b1]; unfold nmX kWb; rw [if_neg (by simp; omega)]
  · have g1 : k ≠ 1 := fun z => hb (Or.inl z)
    have g2 : k ≠ 36 := fun z => hb (Or.inr z)
    have eq := RS_good h g1 g2
    subst eq
    have nm := F_MD_name_eq R (s := s) (e := e) t4 g1 g2 h5 t1 (by omega) t6 t7
    have both : k = 3 → nnR (rt R k s e) = if tkn (R.2.1 393) (R.2.1 394) (R.2.1 388) s e D Ms = true then some (0, rf (rt R k s e) 6 (xI s)) else some (1, rt R k s e) := by
      intro h3
      have s1 := F_MD_among_eq (R := R) (k := k) (first := 0) (cnt := D) (by omega) t1 (by omega) (t6 h3)
      have s2 := F_MD_among_eq (R := R) (k := k) (first := 40) (cnt := Ms) (by omega) t1 (by omega) (t6 h3)
      rw [if_pos h3] at nm
      unfold nnR
      rw [nm, Option.bind_some]
      simp only [show ((1 : Int32) = 0) = False from by decide, if_false]
      rw [show (rt R k s e).1 387 13 = xI D from hD, show (0 : Int32) = xI 0 from rfl, s1, Option.bind_some]
      simp only []
      rw [show (rt R k s e).1 387 18 = xI Ms from hM, show (40 : Int32) = xI 40 from rfl, s2, Option.bind_some]
      simp only []
      unfold B_MD_newName_41 B_MD_newName_42 tkn
      rw [F_MD_want_0 (rt R k s e) 6 _ h5 (by decide), F_MD_want_1 (rt R k s e) 6 _ h5]
      have pos : ∀ x : Int32, (x = -1 ∨ ∃ j, j < 2147483648 ∧ x = xI j) → ((xI 0 ≤ x) = ¬ x = -1) := by
        intro x hx
        rcases hx with z | ⟨j, z1, z2⟩
        · rw [z]; apply propext; decide
        · rw [z2]; apply propext
          exact ⟨fun _ => xI_neg1 z1, fun _ => xI_nonneg z1⟩
      have p1 := pos (nmI (R.2.1 393) (R.2.1 394) (R.2.1 388) s e 0 D 0) (by
        rcases nmI_cases (R.2.1 393) (R.2.1 394) (R.2.1 388) s e 0 D 0 with z | ⟨j, j1, j2, z⟩
        · exact Or.inl z
        · exact Or.inr ⟨j, by omega, z⟩)
      have p2 := pos (nmI (R.2.1 393) (R.2.1 394) (R.2.1 388) s e 40 Ms 0) (by
        rcases nmI_cases (R.2.1 393) (R.2.1 394) (R.2.1 388) s e 40 Ms 0 with z | ⟨j, j1, j2, z⟩
        · exact Or.inl z
        · exact Or.inr ⟨j, by omega, z⟩)
      simp only [p1, p2]
      by_cases h1 : nmI (R.2.1 393) (R.2.1 394) (R.2.1 388) s e 0 D 0 = -1
      · rw [if_neg (fun z => z h1), decide_eq_false (fun z => z h1), Bool.false_or]
        by_cases h2 : nmI (R.2.1 393) (R.2.1 394) (R.2.1 388) s e 40 Ms 0 = -1
        · rw [if_neg (fun z => z h2), decide_eq_false (fun z => z h2)]; rfl
        · rw [if_pos h2, decide_eq_true h2]; rfl
      · rw [if_pos h1, decide_eq_true h1, Bool.true_or]; rfl
    refine ⟨fun h3 z => ?_, fun h3 z => ?_, fun h3 => ⟨rf (rt R k s e) (nmX k) (xI s), ?_, rfl, rfl, fr_trans (fr_rt _ _ _ _) (fr_rf _ _ _)⟩⟩
    · rw [both h3, z]; rfl
    · rw [both h3, z]; rfl
    · rw [if_neg h3] at nm
      unfold nnR nmX
      rw [nm]
      rfl
theorem dim144 (K : Int32 → Int32 → x_m → Option x_m) (l : Int32) (m : x_m) : B_MD_dimension0_144 K l m = (F_MD_read m).bind (fun r => sep2 (rSg 6) (fun fl m => K l fl m) r) := rfl
theorem dim_end (f : Nat) (l : Int32) (m : x_m) (h : 0 < m.1 387 5) : B_MD_dimension0_53 (f + 1) l 0 m = some m := by
  rw [B_MD_dimension0_53, if_pos rfl, F_MD_needSign_f m _ h]
  rfl
theorem dim_tail (f : Nat) (l : Int32) (m : x_m) (h : 0 < m.1 387 5) : B_MD_dimension0_144 (B_MD_dimension0_53 (f + 1)) l m = some m := by
  rw [dim144, F_MD_read_f m h, Option.bind_some, sep2_f _ _ _ (ne_pos h), dim_end f l m h]
/-- the levels of a dimension -/
theorem ls_levels {n D Ms : Nat} (hD8 : D < 8) : ∀ (w : Nat) (M R : x_m) (k s e l f g : Nat), n - e < w → Zl M R n → Zd M R D Ms → l ≤ 4 → e ≤ n → w ≤ f → w < g →
    (∃ M' R' s' e' l' g', 1 ≤ l' ∧ l' ≤ 4 ∧ B_CG_readLevels_11 f (xI (8 + 4 * D)) (xI l) (ct M k s e) = some (xI l', ct M' 6 s' e') ∧ B_MD_dimension0_53 g (xI l) 1 (rt R k s e) = B_MD_dimension0_53 (g' + 1) (xI l') 0 (rt R' 6 s' e') ∧ Zl M' R' n ∧ fr pC qN M M' ∧ fr pR qNr R R' ∧ e' ≤ n ∧ e < e') ∨
    (∃ mc mr, B_CG_readLevels_11 f (xI (8 + 4 * D)) (xI l) (ct M k s e) = some (0, mc) ∧ B_MD_dimension0_53 g (xI l) 1 (rt R k s e) = some mr ∧ Flt mc mr ∧ fr pC qN M mc ∧ fr pR qNr R mr ∧ NK mc mr) := by
  intro w
  induction w with
  | zero =>
    intro M R k s e l f g hw
    exact absurd hw (Nat.not_lt_zero _)
  | succ w ih =>
    intro M R k s e l f g hw hz hd hl he hf hg
    cases f with
    | zero => omega
    | succ f =>
    cases g with
    | zero => omega
    | succ g =>
    cases g with
    | zero => omega
    | succ g =>
    obtain ⟨M1, R1, mr, k1, s1, e1, h1, h2, h3, h4, h5, h6, h7, h8, h9⟩ := step2 hz (k := k) (s := s) he
    obtain ⟨t1, t2, t3, t4, t5, t6, t7⟩ := h7
    have hn := hz.1
    rw [B_CG_readLevels_11, if_neg (by show ¬ (xI 4 < _); rw [xI_lt (by omega) (by omega)]; omega), h1, Option.bind_some]
    rw [B_MD_dimension0_53, if_neg (show ¬ (1 : Int32) = 0 by decide), h2, Option.bind_some]
    by_cases h3k : k1 = 3
    · subst h3k
      have eq := RS_good h3 (by omega) (by omega)
      subst eq
      obtain ⟨eM, eR⟩ := h9 (by omega) (by omega)
      subst eM; subst eR
      have ls := F_NM_search_eq (M := M1) (k := 3) (s := s1) (e := e1) (first := 8 + 4 * D) (cnt := l) (by omega) t1 (by omega) (t6 rfl)
      have rs := F_MD_among_eq (R := R1) (k := 3) (s := s1) (e := e1) (first := 8 + 4 * D) (cnt := l) (by omega) t1 (by omega) (t6 rfl)
      rw [(Zl_nk h4).1, (Zl_nk h4).2.1, h4.2.2.2.2.1] at rs
      have nm := F_MD_name_eq R1 (s := s1) (e := e1) t4 (by omega) (by omega) (Zl_5 h4) t1 (by omega) t6 t7
      rw [if_pos rfl] at nm
      have e8 : (8 : Int32) + 4 * (rt R1 3 s1 e1).1 387 13 = xI (8 + 4 * D) := by
        show (8 : Int32) + 4 * R1.1 387 13 = _
        rw [hd.2.1, show (4 : Int32) * xI D = xI (4 * D) from xI_mul 4 D, show (8 : Int32) + xI (4 * D) = xI (8 + 4 * D) from xI_add 8 (4 * D)]
      have cls : F_CG_atNewLevel (xI (8 + 4 * D)) (xI l) (ct M1 3 s1 e1) = if nmI (M1.2.1 6) (M1.2.1 7) (M1.2.1 2) s1 e1 (8 + 4 * D) l 0 = -1 then (if l < 4 then some (1, ct M1 3 s1 e1) else some (0, cf (ct M1 3 s1 e1) 7 (xI s1))) else some (0, cf (ct M1 3 s1 e1) 6 (xI s1)) := by
        unfold F_CG_atNewLevel B_CG_atNewLevel_56 B_CG_atNewLevel_61
        rw [F_LX_atName_eq M1 t4, if_pos rfl, Option.bind_some]
        simp only [show ((1 : Int32) = 0) = False from by decide, if_false]
        rw [ls, Option.bind_some]
        simp only [show (xI l < 4) = (l < 4) from xI_lt (b := 4) (by omega) (by omega)]
        split
        · split <;> rfl
        · rfl
      rw [cls, nm, Option.bind_some]
      simp only [show ((1 : Int32) = 0) = False from by decide, if_false]
      rw [e8, rs, Option.bind_some]
      simp only []
      by_cases hfound : nmI (M1.2.1 6) (M1.2.1 7) (M1.2.1 2) s1 e1 (8 + 4 * D) l 0 = -1
      · rw [if_pos hfound, hfound, if_neg (show ¬ (0 : Int32) ≤ -1 by decide)]
        unfold B_MD_dimension0_91
        rw [F_MD_want_1 (rt R1 3 s1 e1) _ _ (Zl_5 h4), Option.bind_some]
        simp only [show ((1 : Int32) = 0) = False from by decide, if_false, show (4 ≤ xI l) = (4 ≤ l) from xI_le (a := 4) (by omega) (by omega)]
        by_cases hl4 : l < 4
        · rw [if_pos hl4, if_neg (show ¬ 4 ≤ l by omega), Option.bind_some]
          simp only [show ((1 : Int32) = 0) = False from by decide, if_false]
          unfold B_MD_dimension0_114
          rw [F_MD_want_1 (rt R1 3 s1 e1) _ _ (Zl_5 h4), Option.bind_some]
          simp only [show ((1 : Int32) = 0) = False from by decide, if_false]
          rw [e8, xI_add, F_NM_keep_eq (by omega) t1 (by omega) (t6 rfl) h4.2.2.1, Option.bind_some, F_MD_keep_eq (by omega) t1 (by omega) (t6 rfl) (Zl_r h4).2.2.1, Option.bind_some, xI_add1]
          have hz2 : Zl (ckp M1 (8 + 4 * D + l) s1 e1) (rkp R1 (8 + 4 * D + l) s1 e1) n := Zl_kp h4 (t6 rfl)
          have fM : fr pC qN M1 (ckp M1 (8 + 4 * D + l) s1 e1) := fr_ckp _ _ _ _
          have fR : fr pR qNr R1 (rkp R1 (8 + 4 * D + l) s1 e1) := fr_rkp _ _ _ _
          generalize ckp M1 (8 + 4 * D + l) s1 e1 = M2 at *
          generalize rkp R1 (8 + 4 * D + l) s1 e1 = R2 at *
          obtain ⟨M3, R3, mr3, k3, s3, e3, i1, i2, i3, i4, i5, i6, i7, i8, i9⟩ := step2 hz2 (k := 3) (s := s1) t2
          obtain ⟨u1, u2, u3, u4, u5, u6, u7⟩ := i7
          rw [i1, Option.bind_some, dim144, i2, Option.bind_some]
          obtain ⟨x7, x6, xo⟩ := sep2_eq (fun fl m => B_MD_dimension0_53 (g + 1) (xI (l + 1)) fl m) i3 (Zl_5 i4) u4 (Or.inl rfl : (6 = 6 ∨ 6 = 8))
          rw [show (ct M3 k3 s3 e3).2.2.1 3 1 = kRf k3 from rfl, if_pos (kRf_kv u4)]
          simp only [kRf_is (j := 6) u4 (by omega) (by omega)]
          rw [F_LX_at_eq M3 u4 (by omega) (by omega)]
          by_cases k6 : k3 = 6
          · left
            rw [if_pos k6, x6 k6]
            obtain ⟨eM, eR⟩ := i9 (by omega) (by omega)
            subst eM; subst eR; subst k6
            exact ⟨M3, R3, s3, e3, l + 1, g, by omega, by omega, rfl, rfl, hz2, fM, fR, u2, by have := u5 (by omega); have := t5 (by omega); omega⟩
          · rw [if_neg k6]
            by_cases k7 : k3 = 7
            · rw [if_pos k7, x7 k7, Option.bind_some]
              simp only [show ((1 : Int32) = 0) = False from by decide, if_false]
              obtain ⟨eM, eR⟩ := i9 (by omega) (by omega)
              subst eM; subst eR; subst k7
              have := t5 (by omega)
              have := u5 (by omega)
              rcases ih M3 R3 7 s3 e3 (l + 1) f (g + 1) (by omega) hz2 (Zd_fr hd fM fR) (by omega) u2 (by omega) (by omega) with ⟨M', R', s', e', l', g', j1, j2, j3, j4, j5, j6, j7, j8, j9⟩ | ⟨mc, mr, j1, j2, j3, j4, j5, j6⟩
              · left; exact ⟨M', R', s', e', l', g', j1, j2, j3, j4, j5, fr_trans fM j6, fr_trans fR j7, j8, by omega⟩
              · right; exact ⟨mc, mr, j1, j2, j3, fr_trans fM j4, fr_trans fR j5, j6⟩
            · right
              obtain ⟨mr', y1, y2, y3, y4⟩ := xo k7 k6
              rw [if_neg k7, Option.bind_some]
              simp only [if_true]
              have hp : 0 < mr'.1 387 5 := by rw [y2]; exact kUn_pos k3
              refine ⟨cf (ct M3 k3 s3 e3) (kUn k3) (xI s3), mr', rfl, ?_, ⟨?_, ?_, hp⟩, fr_trans fM (up0 (fr_trans i5 (fr_trans (fr_ct _ _ _ _) (fr_cf _ _ _)))), fr_trans fR (up0r (fr_trans i6 y4)), ?_⟩
              · rw [y1]; exact dim_end g _ _ hp
              · rw [y2]; rfl
              · rw [y3]; rfl
              · exact NK_fr (Zl_nk i4) (fr_trans (fr_ct _ _ _ _) (fr_cf _ _ _)) y4
        · right
          rw [if_neg hl4, if_pos (show 4 ≤ l by omega), Option.bind_some]
          simp only [if_true]
          unfold B_MD_dimension0_114
          rw [F_MD_want_0 (rt R1 3 s1 e1) _ _ (Zl_5 h4) (by decide), Option.bind_some]
          simp only [if_true]
          refine ⟨_, _, rfl, dim_tail g _ _ (show (0 : Int32) < 7 by decide), Flt_cr _ _ _ _ (by decide), up0 (fr_trans (fr_ct _ _ _ _) (fr_cf _ _ _)), up0r (fr_trans (fr_rt _ _ _ _) (fr_rf _ _ _)), NK_fr (Zl_nk h4) (fr_trans (fr_ct _ _ _ _) (fr_cf _ _ _)) (fr_trans (fr_rt _ _ _ _) (fr_rf _ _ _))⟩
      · right
        rw [if_neg hfound, Option.bind_some]
        simp only [if_true]
        have hpos : (0 : Int32) ≤ nmI (M1.2.1 6) (M1.2.1 7) (M1.2.1 2) s1 e1 (8 + 4 * D) l 0 := by
          rcases nmI_cases (M1.2.1 6) (M1.2.1 7) (M1.2.1 2) s1 e1 (8 + 4 * D) l 0 with z | ⟨j, j1, j2, z⟩
          · exact absurd z hfound
          · rw [z]; exact xI_nonneg (by omega)
        rw [if_pos hpos]
        unfold B_MD_dimension0_91
        rw [F_MD_want_0 (rt R1 3 s1 e1) _ _ (Zl_5 h4) (by decide), Option.bind_some]
        simp only [if_true]
        refine ⟨_, _, rfl, dim_tail g _ _ (show (0 : Int32) < 6 by decide), Flt_cr _ _ _ _ (by decide), up0 (fr_trans (fr_ct _ _ _ _) (fr_cf _ _ _)), up0r (fr_trans (fr_rt _ _ _ _) (fr_rf _ _ _)), NK_fr (Zl_nk h4) (fr_trans (fr_ct _ _ _ _) (fr_cf _ _ _)) (fr_trans (fr_rt _ _ _ _) (fr_rf _ _ _))⟩
    · right
      have cls : F_CG_atNewLevel (xI (8 + 4 * D)) (xI l) (ct M1 k1 s1 e1) = some (0, cf (ct M1 k1 s1 e1) (nmX k1) (xI s1)) := by
        unfold F_CG_atNewLevel
        rw [F_LX_atName_eq M1 t4, if_neg h3k]
        rfl
      rw [cls, Option.bind_some]
      simp only [if_true]
      have rf' : ∃ mr', F_MD_name mr = some (0, mr') ∧ mr'.1 387 5 = nmX k1 ∧ mr'.1 387 6 = xI s1 ∧ fr pR q0 R1 mr' := by
        by_cases hb : k1 = 1 ∨ k1 = 36
        · obtain ⟨b1, b2, b3⟩ := RS_bad h3 hb
          refine ⟨mr, F_MD_name_f mr (by rw [b1]; exact kUn_ne k1), ?_, b2, b3⟩
          rw [b1]; unfold nmX kWb; rw [if_neg (by simp; omega)]
        · have eq := RS_good h3 (fun z => hb (Or.inl z)) (fun z => hb (Or.inr z))
          subst eq
          have nm := F_MD_name_eq R1 (s := s1) (e := e1) t4 (fun z => hb (Or.inl z)) (fun z => hb (Or.inr z)) (Zl_5 h4) t1 (by omega) t6 t7
          rw [if_neg h3k] at nm
          exact ⟨_, nm, rfl, rfl, fr_trans (fr_rt _ _ _ _) (fr_rf _ _ _)⟩
      obtain ⟨mr', y1, y2, y3, y4⟩ := rf'
      rw [y1, Option.bind_some]
      simp only [if_true]
      have hp : 0 < mr'.1 387 5 := by rw [y2]; exact nmX_pos k1
      refine ⟨_, _, rfl, dim_tail g _ _ hp, ⟨?_, ?_, hp⟩, up0 (fr_trans h5 (fr_trans (fr_ct _ _ _ _) (fr_cf _ _ _))), up0r (fr_trans h6 y4), NK_fr (Zl_nk h4) (fr_trans (fr_ct _ _ _ _) (fr_cf _ _ _)) y4⟩
      · rw [y2]; rfl
      · rw [y3]; rfl

theorem ct_wS (M : x_m) (k s e : Nat) {a b : Nat} (v : Int32) (h : a ≠ 3) : x_wS (ct M k s e) a b v = ct (x_wS M a b v) k s e := by
  refine ct_of rfl rfl ?_ ?_ ?_ ?_ ?_ ?_ rfl ?_
  · intro p q hp
    show (if p = a ∧ q = b then v else if p = 3 then _ else _) = if p = a ∧ q = b then v else _
    rw [if_neg hp]
  · show (if 3 = a ∧ 2 = b then v else _) = _; rw [if_neg (by omega)]; rfl
  · show (if 3 = a ∧ 3 = b then v else _) = _; rw [if_neg (by omega)]; rfl
  · show (if 3 = a ∧ 7 = b then v else _) = _; rw [if_neg (by omega)]; rfl
  · show (if 3 = a ∧ 8 = b then v else _) = _; rw [if_neg (by omega)]; rfl
  · intro q h2 h3 h7 h8
    show (if 3 = a ∧ q = b then v else (if q = 2 then _ else if q = 3 then _ else if q = 7 then _ else if q = 8 then _ else _)) = if 3 = a ∧ q = b then v else _
    rw [if_neg (show ¬ (3 = a ∧ q = b) by omega), if_neg (show ¬ (3 = a ∧ q = b) by omega), if_neg h2, if_neg h3, if_neg h7, if_neg h8]
  · intro p q hp
    show (if p = 3 ∧ q = 1 then _ else _) = _
    rw [if_neg hp]; rfl
theorem ct_wA (M : x_m) (k s e a b : Nat) (v : Int32) : x_wA (ct M k s e) a b v = ct (x_wA M a b v) k s e := rfl
theorem rt_wA (M : x_m) (k s e a b : Nat) (v : Int32) : x_wA (rt M k s e) a b v = rt (x_wA M a b v) k s e := rfl
theorem rt_wS (M : x_m) (k s e : Nat) {a b : Nat} (v : Int32) (h : a ≠ 387 ∨ 12 < b ∨ b < 7 ∨ b = 11) : x_wS (rt M k s e) a b v = rt (x_wS M a b v) k s e := by
  refine rt_of rfl ?_ ?_ ?_ ?_ ?_ ?_ ?_
  · intro p q hp
    show (if p = a ∧ q = b then v else if p = 387 then _ else _) = if p = a ∧ q = b then v else _
    rw [if_neg hp]
  · show (if 387 = a ∧ 7 = b then v else _) = _; rw [if_neg (by omega)]; rfl
  · show (if 387 = a ∧ 8 = b then v else _) = _; rw [if_neg (by omega)]; rfl
  · show (if 387 = a ∧ 9 = b then v else _) = _; rw [if_neg (by omega)]; rfl
  · show (if 387 = a ∧ 10 = b then v else _) = _; rw [if_neg (by omega)]; rfl
  · show (if 387 = a ∧ 12 = b then v else _) = _; rw [if_neg (by omega)]; rfl
  · intro q h7 h8 h9 h10 h12
    show (if 387 = a ∧ q = b then v else (if q = 7 then _ else if q = 8 then _ else if q = 9 then _ else if q = 10 then _ else if q = 12 then _ else _)) = if 387 = a ∧ q = b then v else _
    rw [if_neg h7, if_neg h8, if_neg h9, if_neg h10, if_neg h12]
theorem dim42_f (m : x_m) (h : 0 < m.1 387 5) : B_MD_dimension0_42 m = some m := by
  unfold B_MD_dimension0_42
  rw [F_MD_needSign_f m _ h, Option.bind_some]
  exact dim_end 199999 0 m h
def failD (M R : x_m) (c : Option (Int32 × x_m)) (r : Option x_m) : Prop := ∃ mc mr, c = some (0, mc) ∧ r = some mr ∧ Flt mc mr ∧ fr pC qN M mc ∧ fr pR qNr R mr ∧ NK mc mr
theorem ls_dimension {M R : x_m} {n D Ms : Nat} (hz : Zl M R n) (hd : Zd M R D Ms) {k s e : Nat} (he : e ≤ n) :
    (∃ M' R' s' e' l, D < 8 ∧ 1 ≤ l ∧ l ≤ 4 ∧ (F_LX_advance (ct M k s e)).bind F_CG_readDimension = some (1, ct (x_wS (x_wS M' (9 + 13 * D) 0 (xI l)) 4 2 (xI (D + 1))) 8 s' e') ∧ F_MD_dimension0 (rt R k s e) = some (rt (x_wS (x_wA (x_wA R' 389 D (xI l)) 390 D 0) 387 13 (xI (D + 1))) 8 s' e') ∧ Zl M' R' n ∧ fr pC qN M M' ∧ fr pR qNr R R' ∧ e' ≤ n ∧ e < e') ∨
    failD M R ((F_LX_advance (ct M k s e)).bind F_CG_readDimension) (F_MD_dimension0 (rt R k s e)) := by
  obtain ⟨M1, R1, mr, k1, s1, e1, h1, h2, h3, h4, h5, h6, h7, h8, h9⟩ := step2 hz (k := k) (s := s) he
  have hd1 := Zd_fr hd h5 h6
  obtain ⟨d1, d2, d3, d4, d5, d6⟩ := hd1
  have hn := hz.1
  have hC : (F_LX_advance (ct M k s e)).bind F_CG_readDimension = B_CG_readDimension_20 (xI D) (bI (decide (D = 8))) (ct M1 k1 s1 e1) := by
    rw [h1, Option.bind_some]
    unfold F_CG_readDimension
    rw [show (ct M1 k1 s1 e1).1 4 2 = xI D from d1]
    simp only [show (xI D = 8) = (D = 8) from xI_eq (b := 8) (by omega) (by omega)]
    by_cases z : D = 8
    · rw [if_pos z, decide_eq_true z]; rfl
    · rw [if_neg z, decide_eq_false z]; rfl
  have nn : F_MD_dimension0 (rt R k s e) = (nnR mr).bind fun r1 => (if r1.1 = 0 then B_MD_dimension0_42 r1.2 else (if 8 ≤ (r1.2.1 387 13) then B_MD_dimension0_22 0 r1.2 else B_MD_dimension0_22 1 r1.2)) := by
    unfold F_MD_dimension0 F_MD_newName
    rw [h2]; rfl
  have cn := F_CG_atNewName_eq (M := M1) (full := decide (D = 8)) hn d1 d4 d3 d6 h7
  obtain ⟨n1, n2, n3⟩ := nnR_eq hn h3 (Zl_5 h4) d2 d5 d3 d6 h7
  rw [(Zl_nk h4).1, (Zl_nk h4).2.1, h4.2.2.2.2.1] at n1 n2
  rw [hC, nn]
  unfold B_CG_readDimension_20
  rw [cn]
  obtain ⟨t1, t2, t3, t4, t5, t6, t7⟩ := h7
  by_cases h3k : k1 = 3
  · rw [if_pos h3k]
    subst h3k
    obtain ⟨eM, eR⟩ := h9 (by omega) (by omega)
    subst eM; subst eR
    by_cases ht : tkn (M1.2.1 6) (M1.2.1 7) (M1.2.1 2) s1 e1 D Ms = true
    · right
      rw [if_pos ht, n2 rfl ht, Option.bind_some, Option.bind_some]
      simp only [if_true]
      exact ⟨_, _, rfl, dim42_f _ (show (0 : Int32) < 6 by decide), Flt_cr _ _ _ _ (by decide), up0 (fr_trans (fr_ct _ _ _ _) (fr_cf _ _ _)), up0r (fr_trans (fr_rt _ _ _ _) (fr_rf _ _ _)), NK_fr (Zl_nk h4) (fr_trans (fr_ct _ _ _ _) (fr_cf _ _ _)) (fr_trans (fr_rt _ _ _ _) (fr_rf _ _ _))⟩
    · rw [if_neg ht, n1 rfl (by simpa using ht), Option.bind_some]
      simp only [show ((1 : Int32) = 0) = False from by decide, if_false]
      rw [show (rt R1 3 s1 e1).1 387 13 = xI D from d2]
      simp only [show (8 ≤ xI D) = (8 ≤ D) from xI_le (a := 8) (by omega) (by omega)]
      unfold B_MD_dimension0_22
      by_cases z8 : D = 8
      · right
        rw [if_pos (decide_eq_true z8), if_pos (show 8 ≤ D by omega), Option.bind_some, F_MD_want_0 (rt R1 3 s1 e1) 7 _ (Zl_5 h4) (by decide), Option.bind_some]
        simp only [if_true]
        exact ⟨_, _, rfl, dim42_f _ (show (0 : Int32) < 7 by decide), Flt_cr _ _ _ _ (by decide), up0 (fr_trans (fr_ct _ _ _ _) (fr_cf _ _ _)), up0r (fr_trans (fr_rt _ _ _ _) (fr_rf _ _ _)), NK_fr (Zl_nk h4) (fr_trans (fr_ct _ _ _ _) (fr_cf _ _ _)) (fr_trans (fr_rt _ _ _ _) (fr_rf _ _ _))⟩
      · rw [if_neg (by simp [z8]), if_neg (show ¬ 8 ≤ D by omega), Option.bind_some, F_MD_want_1 (rt R1 3 s1 e1) 7 _ (Zl_5 h4), Option.bind_some]
        simp only [show ((1 : Int32) = 0) = False from by decide, if_false]
        rw [show (rt R1 3 s1 e1).1 387 13 = xI D from d2, F_NM_keep_eq (by omega) t1 (by omega) (t6 rfl) h4.2.2.1, Option.bind_some, F_MD_keep_eq (by omega) t1 (by omega) (t6 rfl) (Zl_r h4).2.2.1, Option.bind_some]
        have hz2 : Zl (ckp M1 D s1 e1) (rkp R1 D s1 e1) n := Zl_kp h4 (t6 rfl)
        have fM : fr pC qN M1 (ckp M1 D s1 e1) := fr_ckp _ _ _ _
        have fR : fr pR qNr R1 (rkp R1 D s1 e1) := fr_rkp _ _ _ _
        generalize ckp M1 D s1 e1 = M2 at *
        generalize rkp R1 D s1 e1 = R2 at *
        unfold B_MD_dimension0_42
        rcases ls_next hz2 (k := 3) (s := s1) (e := e1) (j := 5) t2 (by omega) (by omega) with ⟨s2, e2, c1, c2, c3, c4, c5, c6⟩ | ⟨mc, mr2, c1, c2, c3, c4, c5⟩
        · rw [c1, Option.bind_some, show F_MD_needSign 40 (rt R2 3 s1 e1) = _ from c2, Option.bind_some]
          simp only [show ((1 : Int32) = 0) = False from by decide, if_false]
          have e8 : F_CG_readLevels (xI D) (ct M2 5 s2 e2) = B_CG_readLevels_11 x_fu (xI (8 + 4 * D)) (xI 0) (ct M2 5 s2 e2) := by
            unfold F_CG_readLevels F_CT_columnNumber
            rw [Option.bind_some]
            simp only []
            rw [show xI D * 4 + 0 = xI (4 * D) from by rw [show xI D * 4 = xI (D * 4) from xI_mul D 4, show xI (D * 4) + 0 = xI (D * 4 + 0) from xI_add (D * 4) 0]; congr 1; omega, show (8 : Int32) + xI (4 * D) = xI (8 + 4 * D) from xI_add 8 (4 * D)]
            rfl
          rw [e8, show B_MD_dimension0_53 x_fu 0 1 (rt R2 5 s2 e2) = B_MD_dimension0_53 x_fu (xI 0) 1 (rt R2 5 s2 e2) from rfl]
          rcases ls_levels (Ms := Ms) (show D < 8 by omega) 20001 M2 R2 5 s2 e2 0 x_fu x_fu (by omega) hz2 (Zd_fr hd fM fR) (by omega) c4 (by unfold x_fu; omega) (by unfold x_fu; omega) with ⟨M', R', s', e', l', g', j1, j2, j3, j4, j5, j6, j7, j8, j9⟩ | ⟨mc, mr, j1, j2, j3, j4, j5, j6⟩
          · rw [j3, Option.bind_some, show B_MD_dimension0_53 x_fu (xI 0) 1 (rt R2 5 s2 e2) = _ from j4]
            simp only [show (xI l' = 0) = (l' = 0) from xI_eq (b := 0) (by omega) (by omega)]
            rw [if_neg (show ¬ l' = 0 by omega), B_MD_dimension0_53, if_pos rfl]
            rcases ls_next j5 (k := 6) (s := s') (e := e') (j := 8) j8 (by omega) (by omega) with ⟨s3, e3, b1, b2, b3, b4, b5, b6⟩ | ⟨mc, mr3, b1, b2, b3, b4, b5⟩
            · left
              rw [b1, Option.bind_some, show F_MD_needSign 59 (rt R' 6 s' e') = _ from b2, Option.bind_some]
              simp only []
              have gD := Zd_fr hd (fr_trans fM j6) (fr_trans fR j7)
              simp only [show ((1 : Int32) = 0) = False from by decide, if_false]
              rw [xI_ix (by omega), if_pos (show decide (D < 8) = true by simp; omega), xI_cl (by omega)]
              rw [if_pos (show (rt R' 8 s3 e3).1 387 5 = 0 from Zl_5 j5), show (rt R' 8 s3 e3).1 387 13 = xI D from gD.2.1, xI_ix (by omega), if_pos (show decide (D < 8) = true by simp; omega), xI_cl (by omega), show (x_wA (rt R' 8 s3 e3) 389 D (xI l')).1 387 13 = xI D from gD.2.1, xI_ix (by omega), if_pos (show decide (D < 8) = true by simp; omega), xI_cl (by omega)]
              refine ⟨M', R', s3, e3, l', by omega, j1, j2, ?_, ?_, j5, fr_trans fM j6, fr_trans fR j7, b4, by have := t5 (by omega); omega⟩
              · congr 2
                rw [ct_wS _ _ _ _ _ (by omega), ct_wS _ _ _ _ _ (by omega)]
                congr 2
                show (if 4 = 9 + 13 * D ∧ 2 = 0 then _ else M'.1 4 2) + 1 = _
                rw [if_neg (by omega), gD.1, xI_add1]
              · show some _ = some _
                congr 1
                rw [rt_wA, rt_wA, rt_wS _ _ _ _ _ (by omega)]
                congr 2
                show R'.1 387 13 + 1 = _
                rw [gD.2.1, xI_add1]
            · right
              rw [b1, Option.bind_some, show F_MD_needSign 59 (rt R' 6 s' e') = _ from b2, Option.bind_some]
              refine ⟨mc, mr3, rfl, rfl, b3, fr_trans fM (fr_trans j6 (up0 b4)), fr_trans fR (fr_trans j7 (up0r b5)), NK_fr (Zl_nk j5) b4 b5⟩
          · right
            rw [j1, Option.bind_some, show B_MD_dimension0_53 x_fu (xI 0) 1 (rt R2 5 s2 e2) = _ from j2]
            exact ⟨mc, mr, rfl, rfl, j3, fr_trans fM j4, fr_trans fR j5, j6⟩
        · right
          rw [c1, Option.bind_some, show F_MD_needSign 40 (rt R2 3 s1 e1) = _ from c2, Option.bind_some]
          refine ⟨mc, mr2, rfl, dim_end 199999 _ _ c3.2.2, c3, fr_trans fM (up0 c4), fr_trans fR (up0r c5), NK_fr (Zl_nk hz2) c4 c5⟩
  · right
    rw [if_neg h3k]
    obtain ⟨mr', y1, y2, y3, y4⟩ := n3 h3k
    rw [y1, Option.bind_some, Option.bind_some]
    simp only [if_true]
    have hp : 0 < mr'.1 387 5 := by rw [y2]; exact nmX_pos k1
    exact ⟨_, mr', rfl, dim42_f mr' hp, ⟨by rw [y2]; rfl, by rw [y3]; rfl, hp⟩, up0 (fr_trans h5 (fr_trans (fr_ct _ _ _ _) (fr_cf _ _ _))), up0r (fr_trans h6 y4), NK_fr (Zl_nk h4) (fr_trans (fr_ct _ _ _ _) (fr_cf _ _ _)) y4⟩
theorem ls_measure {M R : x_m} {n D Ms : Nat} (hz : Zl M R n) (hd : Zd M R D Ms) {k s e : Nat} (he : e ≤ n) :
    (∃ M' R' s' e', Ms < 8 ∧ (F_LX_advance (ct M k s e)).bind F_CG_readMeasure = some (1, ct (x_wS M' 4 3 (xI (Ms + 1))) 8 s' e') ∧ F_MD_measure (rt R k s e) = some (rt (x_wS R' 387 18 (xI (Ms + 1))) 8 s' e') ∧ Zl M' R' n ∧ fr pC qN M M' ∧ fr pR qNr R R' ∧ e' ≤ n ∧ e < e') ∨
    failD M R ((F_LX_advance (ct M k s e)).bind F_CG_readMeasure) (F_MD_measure (rt R k s e)) := by
  obtain ⟨M1, R1, mr, k1, s1, e1, h1, h2, h3, h4, h5, h6, h7, h8, h9⟩ := step2 hz (k := k) (s := s) he
  have hd1 := Zd_fr hd h5 h6
  obtain ⟨d1, d2, d3, d4, d5, d6⟩ := hd1
  have hn := hz.1
  have hC : (F_LX_advance (ct M k s e)).bind F_CG_readMeasure = B_CG_readMeasure_18 (bI (decide (Ms = 8))) (ct M1 k1 s1 e1) := by
    rw [h1, Option.bind_some]
    unfold F_CG_readMeasure
    rw [show (ct M1 k1 s1 e1).1 4 3 = xI Ms from d4]
    simp only [show (xI Ms = 8) = (Ms = 8) from xI_eq (b := 8) (by omega) (by omega)]
    by_cases z : Ms = 8
    · rw [if_pos z, decide_eq_true z]; rfl
    · rw [if_neg z, decide_eq_false z]; rfl
  have nn : F_MD_measure (rt R k s e) = (nnR mr).bind fun r1 => (if r1.1 = 0 then B_MD_measure_45 r1.2 else (if 8 ≤ (r1.2.1 387 18) then B_MD_measure_22 0 r1.2 else B_MD_measure_22 1 r1.2)) := by
    unfold F_MD_measure F_MD_newName
    rw [h2]; rfl
  have tail : ∀ m : x_m, 0 < m.1 387 5 → B_MD_measure_45 m = some m := by
    intro m h
    unfold B_MD_measure_45
    rw [F_MD_needSign_f m _ h]; rfl
  have cn := F_CG_atNewName_eq (M := M1) (full := decide (Ms = 8)) hn d1 d4 d3 d6 h7
  obtain ⟨n1, n2, n3⟩ := nnR_eq hn h3 (Zl_5 h4) d2 d5 d3 d6 h7
  rw [(Zl_nk h4).1, (Zl_nk h4).2.1, h4.2.2.2.2.1] at n1 n2
  rw [hC, nn]
  unfold B_CG_readMeasure_18
  rw [cn]
  obtain ⟨t1, t2, t3, t4, t5, t6, t7⟩ := h7
  by_cases h3k : k1 = 3
  · rw [if_pos h3k]
    subst h3k
    obtain ⟨eM, eR⟩ := h9 (by omega) (by omega)
    subst eM; subst eR
    by_cases ht : tkn (M1.2.1 6) (M1.2.1 7) (M1.2.1 2) s1 e1 D Ms = true
    · right
      rw [if_pos ht, n2 rfl ht, Option.bind_some, Option.bind_some]
      simp only [if_true]
      exact ⟨_, _, rfl, tail _ (show (0 : Int32) < 6 by decide), Flt_cr _ _ _ _ (by decide), up0 (fr_trans (fr_ct _ _ _ _) (fr_cf _ _ _)), up0r (fr_trans (fr_rt _ _ _ _) (fr_rf _ _ _)), NK_fr (Zl_nk h4) (fr_trans (fr_ct _ _ _ _) (fr_cf _ _ _)) (fr_trans (fr_rt _ _ _ _) (fr_rf _ _ _))⟩
    · rw [if_neg ht, n1 rfl (by simpa using ht), Option.bind_some]
      simp only [show ((1 : Int32) = 0) = False from by decide, if_false]
      rw [show (rt R1 3 s1 e1).1 387 18 = xI Ms from d5]
      simp only [show (8 ≤ xI Ms) = (8 ≤ Ms) from xI_le (a := 8) (by omega) (by omega)]
      unfold B_MD_measure_22
      by_cases z8 : Ms = 8
      · right
        rw [if_pos (decide_eq_true z8), if_pos (show 8 ≤ Ms by omega), Option.bind_some, F_MD_want_0 (rt R1 3 s1 e1) 7 _ (Zl_5 h4) (by decide), Option.bind_some]
        simp only [if_true]
        exact ⟨_, _, rfl, tail _ (show (0 : Int32) < 7 by decide), Flt_cr _ _ _ _ (by decide), up0 (fr_trans (fr_ct _ _ _ _) (fr_cf _ _ _)), up0r (fr_trans (fr_rt _ _ _ _) (fr_rf _ _ _)), NK_fr (Zl_nk h4) (fr_trans (fr_ct _ _ _ _) (fr_cf _ _ _)) (fr_trans (fr_rt _ _ _ _) (fr_rf _ _ _))⟩
      · rw [if_neg (by simp [z8]), if_neg (show ¬ 8 ≤ Ms by omega), Option.bind_some, F_MD_want_1 (rt R1 3 s1 e1) 7 _ (Zl_5 h4), Option.bind_some]
        simp only [show ((1 : Int32) = 0) = False from by decide, if_false]
        rw [show (rt R1 3 s1 e1).1 387 18 = xI Ms from d5, show (ct M1 3 s1 e1).1 4 3 = xI Ms from d4, show (40 : Int32) + xI Ms = xI (40 + Ms) from xI_add 40 Ms, F_NM_keep_eq (by omega) t1 (by omega) (t6 rfl) h4.2.2.1, Option.bind_some, F_MD_keep_eq (by omega) t1 (by omega) (t6 rfl) (Zl_r h4).2.2.1, Option.bind_some]
        have hz2 : Zl (ckp M1 (40 + Ms) s1 e1) (rkp R1 (40 + Ms) s1 e1) n := Zl_kp h4 (t6 rfl)
        have fM : fr pC qN M1 (ckp M1 (40 + Ms) s1 e1) := fr_ckp _ _ _ _
        have fR : fr pR qNr R1 (rkp R1 (40 + Ms) s1 e1) := fr_rkp _ _ _ _
        generalize ckp M1 (40 + Ms) s1 e1 = M2 at *
        generalize rkp R1 (40 + Ms) s1 e1 = R2 at *
        unfold B_MD_measure_45
        rcases ls_next hz2 (k := 3) (s := s1) (e := e1) (j := 8) t2 (by omega) (by omega) with ⟨s2, e2, c1, c2, c3, c4, c5, c6⟩ | ⟨mc, mr2, c1, c2, c3, c4, c5⟩
        · left
          rw [c1, Option.bind_some, show F_MD_needSign 59 (rt R2 3 s1 e1) = _ from c2, Option.bind_some]
          simp only [show ((1 : Int32) = 0) = False from by decide, if_false]
          have gD := Zd_fr hd fM fR
          rw [if_pos (show (rt R2 8 s2 e2).1 387 5 = 0 from Zl_5 hz2)]
          refine ⟨M2, R2, s2, e2, by omega, ?_, ?_, hz2, fM, fR, c4, by have := t5 (by omega); omega⟩
          · rw [ct_wS _ _ _ _ _ (by omega)]
            congr 3
            show x_wS M2 4 3 (M2.1 4 3 + 1) = _
            rw [gD.2.2.2.1, xI_add1]
          · unfold B_MD_measure_71
            rw [rt_wS _ _ _ _ _ (by omega)]
            congr 2
            show x_wS R2 387 18 (R2.1 387 18 + 1) = _
            rw [gD.2.2.2.2.1, xI_add1]
        · right
          rw [c1, Option.bind_some, show F_MD_needSign 59 (rt R2 3 s1 e1) = _ from c2, Option.bind_some]
          exact ⟨mc, mr2, rfl, rfl, c3, fr_trans fM (up0 c4), fr_trans fR (up0r c5), NK_fr (Zl_nk hz2) c4 c5⟩
  · right
    rw [if_neg h3k]
    obtain ⟨mr', y1, y2, y3, y4⟩ := n3 h3k
    rw [y1, Option.bind_some, Option.bind_some]
    simp only [if_true]
    have hp : 0 < mr'.1 387 5 := by rw [y2]; exact nmX_pos k1
    exact ⟨_, mr', rfl, tail mr' hp, ⟨by rw [y2]; rfl, by rw [y3]; rfl, hp⟩, up0 (fr_trans h5 (fr_trans (fr_ct _ _ _ _) (fr_cf _ _ _))), up0r (fr_trans h6 y4), NK_fr (Zl_nk h4) (fr_trans (fr_ct _ _ _ _) (fr_cf _ _ _)) y4⟩
