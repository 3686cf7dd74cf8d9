/-! the run in step -/
theorem run21_eq {M : x_m} {n k s e st : Nat} (f : Nat) (l1 : Int32) {M1 : x_m} {k1 s1 e1 : Nat} (hn : n ≤ 20000) (hl : M.1 1 1 = xI n) (hst : st ≤ n) (ha : F_LX_advance (ct M k s e) = some (ct M1 k1 s1 e1)) (hk : k1 ≤ 36) :
    B_QR_run_21 (f + 1) l1 (xI st) (ct M k s e) = if k1 = 0 then some (l1, x_wS (ct M1 k1 s1 e1) 1 1 0) else (stC k1 (ct M1 k1 s1 e1)).bind fun r => if r.1 = 0 then some (l1, x_wS r.2 1 1 0) else B_QR_run_21 f (l1 + 1) (xI (st + 1)) r.2 := by
  rw [B_QR_run_21, ct_o _ _ _ _ _ (by omega), hl, if_neg (by rw [xI_lt (by omega) (by omega)]; omega), ha, Option.bind_some]
  unfold B_QR_run_89 B_QR_run_90 B_QR_run_107 stC
  rw [show (ct M1 k1 s1 e1).2.2.1 3 1 = kRf k1 from rfl, xI_add1]
  simp only [kRf_kv hk, if_true, kRf_is (j := 20) hk (by omega) (by omega), kRf_is (j := 0) hk (by omega) (by omega)]
  by_cases k20 : k1 = 20
  · rw [if_pos k20, if_neg (show ¬ k1 = 0 by omega), if_pos k20]
  · rw [if_neg k20, if_neg k20]
    by_cases k0 : k1 = 0
    · rw [if_pos k0, if_pos k0]
    · rw [if_neg k0, if_neg k0]
      congr 1
theorem run31_f (g : Nat) (l1 : Int32) (m : x_m) (h : 0 < m.1 387 5) : B_MD_run_31 (g + 1) l1 m = some (l1, x_wS m 387 4 0) := by
  rw [B_MD_run_31, if_neg (ne_pos h)]; rfl
def endR (M R : x_m) (C S : Option (Int32 × x_m)) : Prop := ∃ v mc mr D Ms q q2 r r2, C = some (v, x_wS mc 1 1 0) ∧ S = some (v, x_wS mr 387 4 0) ∧ CO mc mr D Ms q q2 r r2 ∧ FC M mc ∧ FR R mr ∧ mc.1 3 5 = mr.1 387 5 ∧ mc.1 3 6 = mr.1 387 6
theorem endR_pre {M R M' R' : x_m} {C S : Option (Int32 × x_m)} (h : endR M' R' C S) (f : FC M M') (g : FR R R') : endR M R C S := by
  obtain ⟨v, mc, mr, D, Ms, q, q2, r, r2, a1, a2, a3, a4, a5, a6⟩ := h
  exact ⟨v, mc, mr, D, Ms, q, q2, r, r2, a1, a2, a3, FC_trans f a4, FR_trans g a5, a6⟩
theorem ls_run {n : Nat} : ∀ (w : Nat) (M R : x_m) (k s e cnt st f g D Ms q q2 r r2 : Nat), n - e < w → Zl M R n → CO M R D Ms q q2 r r2 → e ≤ n → st ≤ e → w ≤ f → w < g →
    endR M R (B_QR_run_21 f (xI cnt) (xI st) (ct M k s e)) ((F_MD_read (rt R k s e)).bind fun m => B_MD_run_31 g (xI cnt) m) := by
  intro w
  induction w with
  | zero => intro M R k s e cnt st f g D Ms q q2 r r2 h; exact absurd h (Nat.not_lt_zero _)
  | succ w ih =>
    intro M R k s e cnt st f g D Ms q q2 r r2 hw hz hc he hst hf hg
    cases f with
    | zero => omega
    | succ f =>
    cases g with
    | zero => omega
    | succ g =>
    cases g with
    | zero => omega
    | succ g =>
    obtain ⟨M1, R1, mr1, k1, s1, e1, h1, h2, h3, h4, h5, h6, h7, h8, h9⟩ := step2 hz (k := k) (s := s) he
    have h7' := h7
    obtain ⟨t1, t2, t3, t4, t5, t6, t7⟩ := h7
    have c1 := CO_t hc h5 h6
    have F1 : FC M M1 := FC_pC h5 (fun _ z => z.elim)
    have G1 : FR R R1 := FR_pR h6 (fun _ z => z.elim)
    rw [run21_eq f (xI cnt) hz.1 hz.2.1 (by omega) h1 t4, h2, Option.bind_some]
    by_cases hb : k1 = 1 ∨ k1 = 36
    · obtain ⟨b1, b2, b3⟩ := RS_bad h3 hb
      have p5 : 0 < mr1.1 387 5 := by rw [b1]; exact kUn_pos k1
      have hop : ∃ op : Bool, M1.1 4 4 = bI op := by
        rcases c1.opn with ⟨a, b, _⟩ | ⟨a, b, _⟩
        · exact ⟨false, a⟩
        · exact ⟨true, a⟩
      obtain ⟨op, o1⟩ := hop
      unfold stC
      rw [if_neg (by omega), if_neg (by omega), cs_eq t4 o1, if_neg (by omega), Option.bind_some, run31_f _ _ _ p5]
      simp only [if_true]
      exact ⟨_, cf (ct M1 k1 s1 e1) (kUn k1) (xI s1), mr1, D, Ms, q, q2, r, r2, rfl, rfl, CO_t c1 (fr_trans (fr_ct _ _ _ _) (fr_cf _ _ _)) b3, FC_trans F1 (FC_pC (fr_trans (fr_ct _ _ _ _) (fr_cf _ _ _)) (fun _ z => z.elim)), FR_trans G1 (FR_pR b3 (fun _ z => z.elim)), b1.symm, b2.symm⟩
    · have x1 : k1 ≠ 1 := fun w => hb (Or.inl w)
      have x2 : k1 ≠ 36 := fun w => hb (Or.inr w)
      have eq := RS_good h3 x1 x2
      subst eq
      have z1 := Zl_f h4
      rw [B_MD_run_31, if_pos (show (rt R1 k1 s1 e1).1 387 5 = 0 from z1.1), show (rt R1 k1 s1 e1).1 387 9 = rTk k1 from rfl]
      have tk := (rTk_tab k1 t4 x1 x2).2.2.1
      by_cases k0 : k1 = 0
      · rw [if_pos k0, if_pos (tk.mpr k0)]
        unfold B_MD_run_71
        exact ⟨_, ct M1 k1 s1 e1, rt R1 k1 s1 e1, D, Ms, q, q2, r, r2, rfl, rfl, CO_t c1 (fr_ct _ _ _ _) (fr_rt _ _ _ _), FC_trans F1 (FC_ct _ _ _ _), FR_trans G1 (FR_rt _ _ _ _), (show M1.1 3 5 = R1.1 387 5 from z1.2.1.trans z1.1.symm), (show M1.1 3 6 = R1.1 387 6 from z1.2.2.1.trans z1.2.2.2.symm)⟩
      · rw [if_neg k0, if_neg (fun z => k0 (tk.mp z))]
        have e01 := t5 k0
        rcases ls_stmt h4 c1 x1 x2 h7' with ⟨M2, R2, s2, e2, D2, Ms2, qa, qb, ra, rb, a1, a2, a3, a4, a5, a6, a7, a8⟩ | ⟨mc, mr, D2, Ms2, qa, qb, ra, rb, a1, a2, a3, a4, a5, a6⟩
        · rw [a1, a2, Option.bind_some, Option.bind_some, if_pos (show (rt R2 8 s2 e2).1 387 5 = 0 from Zl_5 a3)]
          simp only [show ((1 : Int32) = 0) = False from by decide, if_false]
          unfold B_MD_run_62
          rw [xI_add1]
          exact endR_pre (ih M2 R2 8 s2 e2 (cnt + 1) (st + 1) f (g + 1) D2 Ms2 qa qb ra rb (by omega) a3 a4 a8 (by omega) (by omega) (by omega)) (FC_trans F1 a5) (FR_trans G1 a6)
        · rw [a1, a2, Option.bind_some, Option.bind_some, if_neg (ne_pos a3.2.2)]
          simp only [if_true]
          unfold B_MD_run_62
          rw [F_MD_read_f mr a3.2.2, Option.bind_some, run31_f _ _ _ a3.2.2, Int32.add_zero]
          exact ⟨_, mc, mr, D2, Ms2, qa, qb, ra, rb, rfl, rfl, a4, FC_trans F1 a5, FR_trans G1 a6, a3.1, a3.2.1⟩
def SR (M R : x_m) (n : Nat) : Prop := ∃ D Ms q q2 r r2, CO M R D Ms q q2 r r2 ∧ n ≤ 20000 ∧ M.1 1 1 = xI n ∧ R.1 387 4 = xI n ∧ M.1 3 5 = R.1 387 5 ∧ M.1 3 6 = R.1 387 6
theorem CO_x {M R M' R' : x_m} {D Ms q q2 r r2 : Nat} (h : CO M R D Ms q q2 r r2) (f : ∀ a b, 4 ≤ a → M'.1 a b = M.1 a b) (f2 : M'.2.1 = M.2.1) (f3 : ∀ b, b = 3 ∨ b = 4 → M'.2.2.1 114 b = M.2.2.1 114 b) (g : ∀ a b, (a = 387 → 13 ≤ b ∨ b = 2) → R'.1 a b = R.1 a b) (g2 : R'.2.1 = R.2.1) (g3 : ∀ b, b = 21 ∨ b = 22 → R'.2.2.1 387 b = R.2.2.1 387 b) : CO M' R' D Ms q q2 r r2 := by
  have h1 := h.hq
  have h2 := h.hr
  exact CO_k h (fun a b z => f a b (by unfold kC at z; omega)) (fun a _ => by rw [f2]) f3 (fun b z => g _ _ (by omega)) (fun a b x y => g _ _ (by omega)) (fun a _ => by rw [g2]) g3
theorem SR_run {M R : x_m} {n : Nat} (h : SR M R n) : ∃ v M' R', F_QR_run M = some (v, M') ∧ F_MD_run R = some (v, R') ∧ SR M' R' 0 ∧ FC M M' ∧ FR R R' := by
  obtain ⟨D, Ms, q, q2, r, r2, hc, hn, hl, hlr, _, _⟩ := h
  have hq := hc.hq
  have hr := hc.hr
  have hq2 : q2 = 115 ∨ q2 = 251 := by omega
  unfold F_QR_run F_MD_run F_LX_restart
  rw [Option.bind_some, show (x_wS (x_wS (x_wS M 3 3 0) 3 5 0) 3 6 (-1)).2.2.1 114 3 = q2 from hc.q3, if_pos (y_qb hq2), F_QU_clear_eq, Option.bind_some]
  have m1 : ∀ a b, (x_wS (x_wS (x_wS M 3 3 0) 3 5 0) 3 6 (-1)).1 a b = if a = 3 ∧ b = 6 then -1 else if a = 3 ∧ b = 5 then 0 else if a = 3 ∧ b = 3 then 0 else M.1 a b := fun _ _ => rfl
  have m2 : (x_wS (x_wS (x_wS M 3 3 0) 3 5 0) 3 6 (-1)).2 = M.2 := rfl
  generalize x_wS (x_wS (x_wS M 3 3 0) 3 5 0) 3 6 (-1) = Ma at *
  have n1 : ∀ a b, (x_wS (x_wS (x_wS (x_wS (x_wS R 387 1 0) 387 5 0) 387 6 (-1)) 387 23 0) 387 7 0).1 a b = if a = 387 ∧ b = 7 then 0 else if a = 387 ∧ b = 23 then 0 else if a = 387 ∧ b = 6 then -1 else if a = 387 ∧ b = 5 then 0 else if a = 387 ∧ b = 1 then 0 else R.1 a b := fun _ _ => rfl
  have n2 : (x_wS (x_wS (x_wS (x_wS (x_wS R 387 1 0) 387 5 0) 387 6 (-1)) 387 23 0) 387 7 0).2 = R.2 := rfl
  generalize x_wS (x_wS (x_wS (x_wS (x_wS R 387 1 0) 387 5 0) 387 6 (-1)) 387 23 0) 387 7 0 = R1 at *
  have f0 := fr_clM Ma q2
  have c1 := clM_1 Ma q2
  have c2 := clM_2 Ma q2
  generalize hM1 : clM Ma q2 = M1 at *
  have e1 : ∀ a b, a < 113 → M1.1 a b = Ma.1 a b := fun a b z => by rw [c1, if_neg (by omega), if_neg (by omega), if_neg (by omega), if_neg (by omega), if_neg (by omega), if_neg (by omega)]
  have e1' : ∀ a b, a < 113 → a ≠ 3 → M1.1 a b = M.1 a b := fun a b z y => by rw [e1 a b z, m1, if_neg (by omega), if_neg (by omega), if_neg (by omega)]
  have e2 : ∀ a, a < 113 → M1.2.1 a = M.2.1 a := fun a z => by rw [f0.2.1 a (by unfold qQ; omega), m2]
  have e33 : M1.1 3 3 = xI 0 := by rw [e1 _ _ (by omega), m1, if_neg (by omega), if_neg (by omega), if_pos ⟨rfl, rfl⟩]; rfl
  have e3 : ∀ a b, ¬ (a = 3 ∧ b = 1) → M1.2.2.1 a b = M.2.2.1 a b := fun a b z => by rw [f0.2.2.1 a b z, m2]
  have r1 : ∀ a b, (a = 387 → b ≠ 7 ∧ b ≠ 23 ∧ b ≠ 6 ∧ b ≠ 5 ∧ b ≠ 1) → R1.1 a b = R.1 a b := fun a b z => by rw [n1, if_neg (by omega), if_neg (by omega), if_neg (by omega), if_neg (by omega), if_neg (by omega)]
  have fz : Fz M1 R1 := by
    refine ⟨?_, ?_, ?_, ?_⟩
    · rw [n1, if_neg (by omega), if_neg (by omega), if_neg (by omega), if_pos ⟨rfl, rfl⟩]
    · rw [e1 _ _ (by omega), m1, if_neg (by omega), if_pos ⟨rfl, rfl⟩]
    · rw [e1 _ _ (by omega), m1, if_pos ⟨rfl, rfl⟩]
    · rw [n1, if_neg (by omega), if_neg (by omega), if_pos ⟨rfl, rfl⟩]
  have nk1 : NK M1 R1 := by
    unfold NK
    rw [e2 6 (by omega), e2 7 (by omega), n2]; exact hc.nk
  have z1 : Zl M1 R1 n := ⟨hn, (e1' _ _ (by omega) (by omega)).trans hl, by rw [e2 2 (by omega)]; exact hc.tb, (r1 _ _ (by omega)).trans hlr, by rw [e2 2 (by omega), n2]; exact hc.tt, fz, nk1⟩
  have co1 : CO M1 R1 D Ms q q2 r r2 := by
    refine ⟨z1.2.2.1, z1.2.2.2.2.1, nk1, ?_, (e3 _ _ (by omega)).trans hc.q3, (e3 _ _ (by omega)).trans hc.q4, by rw [n2]; exact hc.r21, by rw [n2]; exact hc.r22, hc.hq, hc.hr, Or.inl ⟨?_, ?_, ?_, ?_, ?_⟩, ?_⟩
    · unfold Zd
      rw [e1' _ _ (by omega) (by omega), e1' _ _ (by omega) (by omega), r1 _ _ (by omega), r1 _ _ (by omega)]; exact hc.zd
    · rw [n1, if_neg (by omega), if_pos ⟨rfl, rfl⟩]
    · rw [c1, if_neg (by omega), if_neg (by omega), if_neg (by omega), if_neg (by omega), if_neg (by omega), if_pos ⟨rfl, rfl⟩]
    · rw [c1, if_neg (by omega), if_neg (by omega), if_neg (by omega), if_neg (by omega), if_pos ⟨rfl, rfl⟩]
    · rw [c1, if_neg (by omega), if_neg (by omega), if_neg (by omega), if_pos ⟨rfl, rfl⟩]
    · rw [c1, if_neg (by omega), if_neg (by omega), if_pos ⟨rfl, rfl⟩]
    · rw [e1' _ _ (by omega) (by omega), r1 _ _ (by omega)]
      rcases hc.opn with ⟨a1, a2, a3⟩ | ⟨a1, a2, a3⟩
      · exact Or.inl ⟨a1, a2, NewC_k a3 hc.zd.2.2.1 (fun a b x y => e1' _ _ (by omega) (by omega)) (fun a x y => e2 _ (by omega)) (fun a x y => by rw [n2])⟩
      · exact Or.inr ⟨a1, a2, OpC_k a3 hc.zd.2.2.1 (fun a b x y => e1' _ _ (by omega) (by omega)) (fun a x y => e2 _ (by omega)) (fun a x y => by rw [n2])⟩
  have fC : FC M M1 := ⟨fun a b x => by rw [f0.1 a b (by unfold pQ; omega), m1, if_neg (by omega), if_neg (by omega), if_neg (by omega)], fun a x => by rw [f0.2.1 a (by unfold qQ; omega), m2], fun a b x => e3 a b (by omega)⟩
  have fR : FR R R1 := ⟨fun a b x => r1 a b (by omega), fun a x => by rw [n2], fun a b x y => by rw [n2], by rw [n2]⟩
  have hadv : F_LX_advance M1 = F_LX_advance (ct M1 0 0 0) := by
    rw [F_LX_advance_eq (p := 0) hn (by omega) z1.2.1 e33 z1.2.2.1, adv_ct (Zl_c z1) (by omega)]
  have hrd : F_MD_read R1 = F_MD_read (rt R1 0 0 0) := by
    have zr := Zl_r z1
    rw [F_MD_read_eq (p := 0) hn (by omega) z1.2.2.2.1 fz.1 (by rw [n1, if_pos ⟨rfl, rfl⟩]; rfl) zr.2.2.1, read_rt zr (by omega)]
  have hrun : B_QR_run_21 x_fu 0 0 M1 = B_QR_run_21 x_fu (xI 0) (xI 0) (ct M1 0 0 0) := by
    rw [show x_fu = 199999 + 1 from rfl, B_QR_run_21, B_QR_run_21, hadv, ct_o _ _ _ _ _ (by omega), show xI 0 = 0 from rfl, z1.2.1, if_neg (show ¬ xI n < 0 from xI_not_neg (by omega)), if_neg (show ¬ xI n < 0 from xI_not_neg (by omega))]
  obtain ⟨v, mc, mr, D', Ms', qa, qb, ra, rb, a1, a2, a3, a4, a5, a6, a7⟩ := ls_run (n := n) (n + 1) M1 R1 0 0 0 0 0 x_fu x_fu D Ms q q2 r r2 (by omega) z1 co1 (by omega) (by omega) (by unfold x_fu; omega) (by unfold x_fu; omega)
  rw [hrun, hrd, a1, show (0 : Int32) = xI 0 from rfl, a2]
  refine ⟨v, _, _, rfl, rfl, ⟨D', Ms', qa, qb, ra, rb, CO_x a3 (fun a b x => ?_) rfl (fun _ _ => rfl) (fun a b x => ?_) rfl (fun _ _ => rfl), by omega, ?_, ?_, ?_, ?_⟩, FC_trans fC (FC_trans a4 (FC_S _ _ (by omega))), FR_trans fR (FR_trans a5 (FR_S _ _ (by omega)))⟩
  · show (if a = 1 ∧ b = 1 then _ else _) = _
    rw [if_neg (by omega)]
  · show (if a = 387 ∧ b = 4 then _ else _) = _
    rw [if_neg (by omega)]
  · exact wS_same _ _ _ _
  · exact wS_same _ _ _ _
  · exact a6
  · exact a7
