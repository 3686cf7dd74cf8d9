/-! dimensions and measures told -/
def qN (a : Nat) : Prop := a = 6 ∨ a = 7
def qNr (a : Nat) : Prop := a = 393 ∨ a = 394
theorem up0 {m m' : x_m} (h : fr pC q0 m m') : fr pC qN m m' := fr_mono h (fun _ _ z => z) (fun _ z => z.elim)
theorem up0r {m m' : x_m} (h : fr pR q0 m m') : fr pR qNr m m' := fr_mono h (fun _ _ z => z) (fun _ z => z.elim)
theorem fr_ckp (M : x_m) (slot s e : Nat) : fr pC qN M (ckp M slot s e) := by
  refine ⟨fun _ _ _ => rfl, fun a z => ?_, fun _ _ _ => rfl, rfl⟩
  show (if a = 6 then _ else if a = 7 then _ else _) = _
  rw [if_neg (fun y => z (Or.inl y)), if_neg (fun y => z (Or.inr y))]
theorem fr_rkp (R : x_m) (slot s e : Nat) : fr pR qNr R (rkp R slot s e) := by
  refine ⟨fun _ _ _ => rfl, fun a z => ?_, fun _ _ _ => rfl, rfl⟩
  show (if a = 393 then _ else if a = 394 then _ else _) = _
  rw [if_neg (fun y => z (Or.inl y)), if_neg (fun y => z (Or.inr y))]
theorem NK_kp {M R : x_m} (h : NK M R) (hb : R.2.1 388 = M.2.1 2) {slot s e : Nat} (h40 : e - s ≤ 40) : NK (ckp M slot s e) (rkp R slot s e) := by
  refine ⟨?_, ?_, ?_⟩
  · show nmK (R.2.1 393) (R.2.1 388) s (40 * slot) (e - s) = nmK (M.2.1 6) (M.2.1 2) s (40 * slot) (e - s)
    rw [h.1, hb]
  · show yup (R.2.1 394) slot _ = yup (M.2.1 7) slot _
    rw [h.2.1]
  · intro j
    show ∃ l, l ≤ 40 ∧ yup (M.2.1 7) slot (xI (e - s)) j = xI l
    unfold yup
    by_cases z : j = slot
    · rw [if_pos z]; exact ⟨_, h40, rfl⟩
    · rw [if_neg z]; exact h.2.2 j
theorem Zl_kp {M R : x_m} {n : Nat} (h : Zl M R n) {slot s e : Nat} (h40 : e - s ≤ 40) : Zl (ckp M slot s e) (rkp R slot s e) n :=
  ⟨h.1, h.2.1, h.2.2.1, h.2.2.2.1, h.2.2.2.2.1, h.2.2.2.2.2.1, NK_kp (Zl_nk h) h.2.2.2.2.1 h40⟩
def Zd (M R : x_m) (D Ms : Nat) : Prop := M.1 4 2 = xI D ∧ R.1 387 13 = xI D ∧ D ≤ 8 ∧ M.1 4 3 = xI Ms ∧ R.1 387 18 = xI Ms ∧ Ms ≤ 8
theorem Zd_fr {M R M' R' : x_m} {D Ms : Nat} {Q Q' : Nat → Prop} (h : Zd M R D Ms) (f : fr pC Q M M') (g : fr pR Q' R R') : Zd M' R' D Ms := by
  obtain ⟨a1, a2, a3, a4, a5, a6⟩ := h
  exact ⟨(f.1 4 2 (by unfold pC; omega)).trans a1, (g.1 387 13 (by unfold pR; omega)).trans a2, a3, (f.1 4 3 (by unfold pC; omega)).trans a4, (g.1 387 18 (by unfold pR; omega)).trans a5, a6⟩
/-- whether the name at a token is taken -/
def tkn (L ln b : Nat → Int32) (s e D Ms : Nat) : Bool := decide (nmI L ln b s e 0 D 0 ≠ -1) || decide (nmI L ln b s e 40 Ms 0 ≠ -1)
theorem F_CT_isTaken_eq {M : x_m} {k s e D Ms : Nat} (hD : M.1 4 2 = xI D) (hM : M.1 4 3 = xI Ms) (d8 : D ≤ 8) (m8 : Ms ≤ 8) (hse : s ≤ e) (he : e ≤ 20000) (h40 : e - s ≤ 40) : F_CT_isTaken (ct M k s e) = some (bI (tkn (M.2.1 6) (M.2.1 7) (M.2.1 2) s e D Ms), ct M k s e) := by
  unfold F_CT_isTaken B_CT_isTaken_35 B_CT_isTaken_40 tkn
  have s1 := F_NM_search_eq (M := M) (k := k) (first := 0) (cnt := D) (by omega) hse he h40
  have s2 := F_NM_search_eq (M := M) (k := k) (first := 40) (cnt := Ms) (by omega) hse he h40
  rw [show (ct M k s e).1 4 2 = xI D from hD, show (0 : Int32) = xI 0 from rfl, s1, Option.bind_some]
  simp only []
  rw [show (ct M k s e).1 4 3 = xI Ms from hM, show (40 : Int32) = xI 40 from rfl, s2, Option.bind_some]
  simp only []
  by_cases h1 : nmI (M.2.1 6) (M.2.1 7) (M.2.1 2) s e 0 D 0 = -1
  · rw [if_pos h1, decide_eq_false (fun z => z h1), Bool.false_or]
    by_cases h2 : nmI (M.2.1 6) (M.2.1 7) (M.2.1 2) s e 40 Ms 0 = -1
    · rw [if_pos h2, decide_eq_false (fun z => z h2)]; rfl
    · rw [if_neg h2, decide_eq_true h2]; rfl
  · rw [if_neg h1, decide_eq_true h1, Bool.true_or]; rfl
theorem F_CG_atNewName_eq {M : x_m} {n e0 k s e D Ms : Nat} {full : Bool} (hn : n ≤ 20000) (hD : M.1 4 2 = xI D) (hM : M.1 4 3 = xI Ms) (d8 : D ≤ 8) (m8 : Ms ≤ 8) (ht : TF n e0 k s e) :
    F_CG_atNewName (bI full) (ct M k s e) = if k = 3 then (if tkn (M.2.1 6) (M.2.1 7) (M.2.1 2) s e D Ms = true then some (0, cf (ct M k s e) 6 (xI s)) else if full = true then some (0, cf (ct M k s e) 7 (xI s)) else some (1, ct M k s e)) else some (0, cf (ct M k s e) (nmX k) (xI s)) := by
  obtain ⟨t1, t2, t3, t4, t5, t6, t7⟩ := ht
  unfold F_CG_atNewName B_CG_atNewName_52 B_CG_atNewName_57
  rw [F_LX_atName_eq M t4]
  by_cases h3 : k = 3
  · rw [if_pos h3, if_pos h3, Option.bind_some]
    simp only [show ((1 : Int32) = 0) = False from by decide, if_false]
    rw [F_CT_isTaken_eq hD hM d8 m8 t1 (by omega) (t6 h3), Option.bind_some]
    simp only [bI_0]
    by_cases ht : tkn (M.2.1 6) (M.2.1 7) (M.2.1 2) s e D Ms = true
    · rw [if_pos ht, if_neg (by rw [ht]; decide)]; rfl
    · rw [if_neg ht, if_pos (by simpa using ht)]
      cases full
      · rfl
      · rfl
  · rw [if_neg h3, if_neg h3]; rfl
/-- newName() of the reference behind its read() -/
def nnR (r1 : x_m) : Option (Int32 × x_m) := ((F_MD_name r1).bind fun r5 => (if r5.1 = 0 then B_MD_newName_58 r5.2 else ((F_MD_among 0 (r5.2.1 387 13) r5.2).bind fun r18 => (if 0 ≤ r18.1 then B_MD_newName_41 r18.2 else ((F_MD_among 40 (r18.2.1 387 18) r18.2).bind fun r31 => (if 0 ≤ r31.1 then B_MD_newName_41 r31.2 else B_MD_newName_42 1 r31.2))))))
theorem nnR_eq {R mr : x_m} {n e0 k s e D Ms : Nat} (hn : n ≤ 20000) (h : RS R mr k s e) (h5 : R.1 387 5 = 0) (hD : R.1 387 13 = xI D) (hM : R.1 387 18 = xI Ms) (d8 : D ≤ 8) (m8 : Ms ≤ 8) (ht : TF n e0 k s e) :
    (k = 3 → tkn (R.2.1 393) (R.2.1 394) (R.2.1 388) s e D Ms = false → nnR mr = some (1, rt R k s e)) ∧ (k = 3 → tkn (R.2.1 393) (R.2.1 394) (R.2.1 388) s e D Ms = true → nnR mr = some (0, rf (rt R k s e) 6 (xI s))) ∧ (k ≠ 3 → ∃ mr', nnR mr = some (0, mr') ∧ mr'.1 387 5 = nmX k ∧ mr'.1 387 6 = xI s ∧ fr pR q0 R mr') := by
  obtain ⟨t1, t2, t3, t4, t5, t6, t7⟩ := ht
  by_cases hb : k = 1 ∨ k = 36
  · obtain ⟨b1, b2, b3⟩ := RS_bad h hb
    refine ⟨fun z => by omega, fun z => by omega, fun _ => ⟨mr, ?_, ?_, b2, b3⟩⟩
    · unfold nnR
      rw [F_MD_name_f mr (by rw [b1]; exact kUn_ne k)]
      rfl
    · rw [b1]; unfold nmX kWb; rw [if_neg (by simp; omega)]
  · have g1 : k ≠ 1 := fun z => hb (Or.inl z)
    have g2 : k ≠ 36 := fun z => hb (Or.inr z)
    have eq := RS_good h g1 g2
    subst eq
    have nm := F_MD_name_eq R (s := s) (e := e) t4 g1 g2 h5 t1 (by omega) t6 t7
    have both : k = 3 → nnR (rt R k s e) = if tkn (R.2.1 393) (R.2.1 394) (R.2.1 388) s e D Ms = true then some (0, rf (rt R k s e) 6 (xI s)) else some (1, rt R k s e) := by
      intro h3
      have s1 := F_MD_among_eq (R := R) (k := k) (first := 0) (cnt := D) (by omega) t1 (by omega) (t6 h3)
      have s2 := F_MD_among_eq (R := R) (k := k) (first := 40) (cnt := Ms) (by omega) t1 (by omega) (t6 h3)
      rw [if_pos h3] at nm
      unfold nnR
      rw [nm, Option.bind_some]
      simp only [show ((1 : Int32) = 0) = False from by decide, if_false]
      rw [show (rt R k s e).1 387 13 = xI D from hD, show (0 : Int32) = xI 0 from rfl, s1, Option.bind_some]
      simp only []
      rw [show (rt R k s e).1 387 18 = xI Ms from hM, show (40 : Int32) = xI 40 from rfl, s2, Option.bind_some]
      simp only []
      unfold B_MD_newName_41 B_MD_newName_42 tkn
      rw [F_MD_want_0 (rt R k s e) 6 _ h5 (by decide), F_MD_want_1 (rt R k s e) 6 _ h5]
      have pos : ∀ x : Int32, (x = -1 ∨ ∃ j, j < 2147483648 ∧ x = xI j) → ((xI 0 ≤ x) = ¬ x = -1) := by
        intro x hx
        rcases hx with z | ⟨j, z1, z2⟩
        · rw [z]; apply propext; decide
        · rw [z2]; apply propext
          exact ⟨fun _ => xI_neg1 z1, fun _ => xI_nonneg z1⟩
      have p1 := pos (nmI (R.2.1 393) (R.2.1 394) (R.2.1 388) s e 0 D 0) (by
        rcases nmI_cases (R.2.1 393) (R.2.1 394) (R.2.1 388) s e 0 D 0 with z | ⟨j, j1, j2, z⟩
        · exact Or.inl z
        · exact Or.inr ⟨j, by omega, z⟩)
      have p2 := pos (nmI (R.2.1 393) (R.2.1 394) (R.2.1 388) s e 40 Ms 0) (by
        rcases nmI_cases (R.2.1 393) (R.2.1 394) (R.2.1 388) s e 40 Ms 0 with z | ⟨j, j1, j2, z⟩
        · exact Or.inl z
        · exact Or.inr ⟨j, by omega, z⟩)
      simp only [p1, p2]
      by_cases h1 : nmI (R.2.1 393) (R.2.1 394) (R.2.1 388) s e 0 D 0 = -1
      · rw [if_neg (fun z => z h1), decide_eq_false (fun z => z h1), Bool.false_or]
        by_cases h2 : nmI (R.2.1 393) (R.2.1 394) (R.2.1 388) s e 40 Ms 0 = -1
        · rw [if_neg (fun z => z h2), decide_eq_false (fun z => z h2)]; rfl
        · rw [if_pos h2, decide_eq_true h2]; rfl
      · rw [if_pos h1, decide_eq_true h1, Bool.true_or]; rfl
    refine ⟨fun h3 z => ?_, fun h3 z => ?_, fun h3 => ⟨rf (rt R k s e) (nmX k) (xI s), ?_, rfl, rfl, fr_trans (fr_rt _ _ _ _) (fr_rf _ _ _)⟩⟩
    · rw [both h3, z]; rfl
    · rw [both h3, z]; rfl
    · rw [if_neg h3] at nm
      unfold nnR nmX
      rw [nm]
      rfl
