/-! the question -/
theorem p_196 {m : x_m} {r ng l3 : Nat} (K : Int32 → x_m → Option x_m) (hr1 : m.2.2.1 387 22 = r) (hr : r = 395 ∨ r = 409) (h4 : m.1 r 4 = xI ng) (hn : ng ≤ 8) (hl : l3 < 24) : ∀ (d i f : Nat) (b : Bool), i + d = ng → d < f → B_MD_question_196 K f (xI l3) (bI b) (xI i) m = (F_MD_want (bI (b || mem8 (m.2.1 (r + 4)) (m.2.1 (r + 2) l3) d i)) 11 (m.2.1 (r + 3) l3) m).bind fun r262 => K (xI (l3 + 1)) r262.2 := by
  intro d
  induction d with
  | zero =>
    intro i f b hi hf
    cases f with
    | zero => omega
    | succ f =>
      rw [B_MD_question_196, hr1, if_pos (y_mq hr), h4, if_pos (by rw [xI_le (by omega) (by omega)]; omega), if_pos (y_mq hr), xI_ix (by omega), if_pos (show decide (l3 < 24) = true by simp; omega), xI_cl (by omega), xI_add1, mem8, Bool.or_false]
  | succ d ih =>
    intro i f b hi hf
    cases f with
    | zero => omega
    | succ f =>
      rw [B_MD_question_196, hr1, if_pos (y_mq hr), h4, if_neg (by rw [xI_le (by omega) (by omega)]; omega), if_pos (y_mq hr), xI_ix (by omega), if_pos (show decide (i < 8) = true by simp; omega), if_pos (y_mq hr), xI_ix (by omega), if_pos (show decide (l3 < 24) = true by simp; omega), xI_cl (by omega), xI_cl (by omega)]
      unfold B_MD_question_235 B_MD_question_240
      rw [xI_add1]
      have i1 := ih (i + 1) f true (by omega) (by omega)
      have i0 := ih (i + 1) f false (by omega) (by omega)
      rw [show bI true = 1 from rfl] at i1
      rw [show bI false = 0 from rfl] at i0
      rw [i1, i0, mem8]
      simp only [bI_0]
      cases b
      · rw [if_pos rfl]
        by_cases h : m.2.1 (r + 4) i = m.2.1 (r + 2) l3
        · rw [if_pos h, if_pos h]; rfl
        · rw [if_neg h, if_neg h]
      · rw [if_neg (by decide)]; rfl
theorem q143_f {m : x_m} {r : Nat} (f : Nat) (l3 : Int32) (h : m.1 387 5 ≠ 0) (hr1 : m.2.2.1 387 22 = r) (hr : r = 395 ∨ r = 409) : B_MD_question_143 (f + 1) l3 m = B_MD_question_272 m := by
  rw [B_MD_question_143, hr1, if_pos (y_mq hr), if_neg h]
  split <;> rfl
theorem p_143 {m : x_m} {r ni ng : Nat} (hr1 : m.2.2.1 387 22 = r) (hr : r = 395 ∨ r = 409) (h5 : m.1 387 5 = 0) (h0 : m.1 r 0 = xI ni) (hni : ni ≤ 24) (h4 : m.1 r 4 = xI ng) (hn : ng ≤ 8) (hty : ∀ i, i < ni → ∃ t, t ≤ 5 ∧ m.2.1 (r + 1) i = xI t) : ∀ (d i f : Nat), i + d = ni → d + 1 < f →
    B_MD_question_143 f (xI i) m = match fug m r ng d i with | none => B_MD_question_272 m | some j => B_MD_question_272 (rf m 11 (m.2.1 (r + 3) j)) := by
  intro d
  induction d with
  | zero =>
    intro i f hi hf
    cases f with
    | zero => omega
    | succ f =>
      rw [B_MD_question_143, hr1, if_pos (y_mq hr), h0, if_pos (by rw [xI_le (by omega) (by omega)]; omega), fug]
  | succ d ih =>
    intro i f hi hf
    cases f with
    | zero => omega
    | succ f =>
    cases f with
    | zero => omega
    | succ f =>
      obtain ⟨t, t5, te⟩ := hty i (by omega)
      have w0 := p_196 (B_MD_question_143 (f + 1)) hr1 hr h4 hn (show i < 24 by omega) ng 0 x_fu false (by omega) (by unfold x_fu; omega)
      have w1 := p_196 (B_MD_question_143 (f + 1)) hr1 hr h4 hn (show i < 24 by omega) ng 0 x_fu true (by omega) (by unfold x_fu; omega)
      rw [show bI true = 1 from rfl, Bool.true_or, show bI true = 1 from rfl, F_MD_want_1 m _ _ h5, Option.bind_some, show xI 0 = 0 from rfl] at w1
      rw [show bI false = 0 from rfl, Bool.false_or, show xI 0 = 0 from rfl] at w0
      have hg : B_MD_question_196 (B_MD_question_143 (f + 1)) x_fu (xI i) 0 0 m = match (if mem8 (m.2.1 (r + 4)) (m.2.1 (r + 2) i) ng 0 = true then fug m r ng d (i + 1) else some i) with | none => B_MD_question_272 m | some j => B_MD_question_272 (rf m 11 (m.2.1 (r + 3) j)) := by
        rw [w0]
        cases hm : mem8 (m.2.1 (r + 4)) (m.2.1 (r + 2) i) ng 0 with
        | true =>
          rw [show bI true = 1 from rfl, F_MD_want_1 m _ _ h5, Option.bind_some, if_pos rfl]
          exact ih (i + 1) (f + 1) (by omega) (by omega)
        | false =>
          rw [show bI false = 0 from rfl, F_MD_want_0 m _ _ h5 (by decide), Option.bind_some, if_neg (by decide)]
          exact q143_f (r := r) f _ (show (11 : Int32) ≠ 0 by decide) hr1 hr
      rw [B_MD_question_143, hr1, if_pos (y_mq hr), h0, if_neg (by rw [xI_le (by omega) (by omega)]; omega), if_pos h5, xI_ix (by omega), xI_cl (by omega), te]
      simp only [show (decide (i < 24) = true) = True from by simp; omega, if_true, y_mq hr]
      unfold B_MD_question_190 B_MD_question_191
      rw [hg, w1, fug]
      simp only [show (xI t ≤ 0) = (t ≤ 0) from xI_le (b := 0) (by omega) (by omega), show (5 ≤ xI t) = (5 ≤ t) from xI_le (a := 5) (by omega) (by omega)]
      unfold ug
      rw [te]
      simp only [show (xI t = 0) = (t = 0) from xI_eq (b := 0) (by omega) (by omega), show (xI t = 5) = (t = 5) from xI_eq (b := 5) (by omega) (by omega)]
      by_cases t0 : t ≤ 0
      · rw [if_pos t0, decide_eq_true (show t = 0 by omega), Bool.true_or, Bool.true_and]
        cases mem8 (m.2.1 (r + 4)) (m.2.1 (r + 2) i) ng 0 <;> rfl
      · rw [if_neg t0, decide_eq_false (show ¬ t = 0 by omega), Bool.false_or]
        by_cases t5' : 5 ≤ t
        · rw [if_pos t5', decide_eq_true (show t = 5 by omega), Bool.true_and]
          cases mem8 (m.2.1 (r + 4)) (m.2.1 (r + 2) i) ng 0 <;> rfl
        · rw [if_neg t5', decide_eq_false (show ¬ t = 5 by omega), Bool.false_and, if_neg (by decide)]
          exact ih (i + 1) (f + 1) (by omega) (by omega)
theorem fug_congr {M R : x_m} {q r ng : Nat} : ∀ d i, (∀ j, i ≤ j → j < i + d → ug M q ng j = ug R r ng j) → fug M q ng d i = fug R r ng d i
  | 0, _, _ => rfl
  | d + 1, i, h => by
    rw [fug, fug, h i (Nat.le_refl _) (by omega), fug_congr d (i + 1) (fun j a b => h j (by omega) (by omega))]
def root (jc : Nat) : Nat := if jc = 0 then 0 else 60 + jc - 1
/-- a question read to its end -/
def CndQ (M R : x_m) (q r D cc jc sn : Nat) (G : (Nat → Bool) → Bool) : Prop := CI M (q + 6) cc jc 0 ∧ R.1 r 13 = xI cc ∧ R.1 r 11 = xI sn ∧ (∀ i, i < cc → CmpR M R q r D i) ∧ sn ≤ 43 * cc ∧ (cc = 0 → sn = 0 ∧ jc = 0) ∧ (0 < cc → Seg (R.2.1 (r + 8)) 0 sn 0 cc G ∧ ∀ a, tvL M (q + 6) a jc (root jc) = G a)
def QR (M R : x_m) (q r D : Nat) : Prop := ∃ (ni ng ns cc jc sn : Nat) (fs : Nat → Nat) (G : (Nat → Bool) → Bool), 1 ≤ ni ∧ QI M R q r ni ∧ GQ M R q r ng ∧ ns ≤ 32 ∧ M.1 q 6 = xI ns ∧ R.1 r 9 = xI ns ∧ (∀ i, i < ns → M.2.1 (q + 5) i = xI (fs i) ∧ R.2.1 (r + 7) i = xI (fs i)) ∧ CndQ M R q r D cc jc sn G
def fx (P : Nat → Nat → Prop) (Q : Nat → Prop) (W : Nat → Nat → Prop) (m m' : x_m) : Prop := (∀ a b, ¬ P a b → m'.1 a b = m.1 a b) ∧ (∀ a, ¬ Q a → m'.2.1 a = m.2.1 a) ∧ (∀ a b, ¬ W a b → m'.2.2.1 a b = m.2.2.1 a b) ∧ m'.2.2.2 = m.2.2.2
theorem fx_of {P : Nat → Nat → Prop} {Q : Nat → Prop} {W : Nat → Nat → Prop} {m m' : x_m} (h : fr P Q m m') (hw : W 3 1) : fx P Q W m m' := ⟨h.1, h.2.1, fun a b z => h.2.2.1 a b (fun w => z (by rw [w.1, w.2]; exact hw)), h.2.2.2⟩
theorem fx_trans {P : Nat → Nat → Prop} {Q : Nat → Prop} {W : Nat → Nat → Prop} {m m' m'' : x_m} (h : fx P Q W m m') (h' : fx P Q W m' m'') : fx P Q W m m'' :=
  ⟨fun a b p => (h'.1 a b p).trans (h.1 a b p), fun a p => (h'.2.1 a p).trans (h.2.1 a p), fun a b p => (h'.2.2.1 a b p).trans (h.2.2.1 a b p), h'.2.2.2.trans h.2.2.2⟩
theorem fx_mono {P P' : Nat → Nat → Prop} {Q Q' : Nat → Prop} {W W' : Nat → Nat → Prop} {m m' : x_m} (h : fx P Q W m m') (hp : ∀ a b, P a b → P' a b) (hq : ∀ a, Q a → Q' a) (hw : ∀ a b, W a b → W' a b) : fx P' Q' W' m m' :=
  ⟨fun a b p => h.1 a b (fun z => p (hp a b z)), fun a p => h.2.1 a (fun z => p (hq a z)), fun a b p => h.2.2.1 a b (fun z => p (hw a b z)), h.2.2.2⟩
def wQ (a b : Nat) : Prop := (a = 3 ∧ b = 1) ∨ (a = 114 ∧ (b = 3 ∨ b = 4))
def wQr (a b : Nat) : Prop := (a = 3 ∧ b = 1) ∨ (a = 387 ∧ (b = 21 ∨ b = 22))
def pQr' (r a b : Nat) : Prop := pQr r a b ∨ (a = 387 ∧ b = 23)
theorem QI_k {M R M' R' : x_m} {q r ni : Nat} (h : QI M R q r ni) (e1 : M'.1 q 0 = M.1 q 0) (e2 : R'.1 r 0 = R.1 r 0) (f : ∀ a, q + 1 ≤ a → a ≤ q + 3 → M'.2.1 a = M.2.1 a) (g : ∀ a, r + 1 ≤ a → a ≤ r + 3 → R'.2.1 a = R.2.1 a) : QI M' R' q r ni := by
  obtain ⟨a1, a2, a3, a4⟩ := h
  refine ⟨a1, e1.trans a2, e2.trans a3, fun i hi => ?_⟩
  rw [f (q + 1) (by omega) (by omega), f (q + 2) (by omega) (by omega), f (q + 3) (by omega) (by omega), g (r + 1) (by omega) (by omega), g (r + 2) (by omega) (by omega), g (r + 3) (by omega) (by omega)]
  exact a4 i hi
theorem GQ_k {M R M' R' : x_m} {q r ng : Nat} (h : GQ M R q r ng) (e1 : M'.1 q 4 = M.1 q 4) (e2 : R'.1 r 4 = R.1 r 4) (f : M'.2.1 (q + 4) = M.2.1 (q + 4)) (g : R'.2.1 (r + 4) = R.2.1 (r + 4)) : GQ M' R' q r ng := by
  obtain ⟨a1, a2, a3, a4⟩ := h
  refine ⟨a1, e1.trans a2, e2.trans a3, fun i hi => ?_⟩
  rw [f, g]; exact a4 i hi
theorem CndQ_k {M R M' R' : x_m} {q r D cc jc sn : Nat} {G : (Nat → Bool) → Bool} (h : CndQ M R q r D cc jc sn G) (hq : q = 115 ∨ q = 251) (hD : D ≤ 8) (e : ∀ a b, q + 6 ≤ a → a < q + 136 → M'.1 a b = M.1 a b) (f : ∀ a, q + 8 ≤ a → a < q + 136 → M'.2.1 a = M.2.1 a) (fl : ∀ d, d < 8 → M'.1 (9 + 13 * d) 0 = M.1 (9 + 13 * d) 0) (e2 : R'.1 r 13 = R.1 r 13) (e3 : R'.1 r 11 = R.1 r 11) (g : ∀ a, r + 8 ≤ a → a ≤ r + 13 → R'.2.1 a = R.2.1 a) : CndQ M' R' q r D cc jc sn G := by
  obtain ⟨a1, a2, a3, a4, a5, a6, a7⟩ := h
  refine ⟨CI_ag a1 ⟨fun j _ => ?_, fun x _ => ?_⟩ (fun b => e _ _ (by omega) (by omega)), e2.trans a2, e3.trans a3, Cmps_fr hq hD a1.2.2.2.1 a4 (fun i b hi => e _ _ (by omega) (by omega)) (fun i hi => f _ (by omega) (by omega)) fl (fun a h1 h2 => g a (by omega) h2), a5, a6, fun hc => ?_⟩
  · rw [f (q + 6 + 2) (by omega) (by omega), f (q + 6 + 3) (by omega) (by omega), f (q + 6 + 4) (by omega) (by omega)]; exact ⟨rfl, rfl, rfl⟩
  · rw [f (q + 6 + 5) (by omega) (by omega)]
  · rw [g (r + 8) (by omega) (by omega)]
    refine ⟨(a7 hc).1, fun a => ?_⟩
    rw [tvL_5 (M := M) (fun x h1 h2 => f x (by omega) (by omega))]
    exact (a7 hc).2 a
theorem rt_self {m R : x_m} {k s e : Nat} (h : ∀ b, b ≤ 12 → m.1 387 b = (rt R k s e).1 387 b) : m = rt m k s e :=
  rt_of rfl (fun _ _ _ => rfl) (h 7 (by omega)) (h 8 (by omega)) (h 9 (by omega)) (h 10 (by omega)) (h 12 (by omega)) (fun _ _ _ _ _ _ => rfl)
def outQ (n D q r q2 r2 : Nat) (M R : x_m) (C : Option (Int32 × x_m)) (S : Option x_m) (u : Nat) : Prop := ∃ M' R' s' e', C = some (1, ct M' 8 s' e') ∧ S = some (rt R' 8 s' e') ∧ s' ≤ e' ∧ e' ≤ n ∧ mu n 8 e' ≤ u ∧ QR M' R' q r D ∧ M'.2.2.1 114 3 = q ∧ M'.2.2.1 114 4 = q2 ∧ R'.2.2.1 387 21 = r ∧ R'.2.2.1 387 22 = r2 ∧ R'.1 387 23 = 1 ∧ Fz M' R' ∧ fx (pQ q) (qQ q) wQ M M' ∧ fx (pQr' r) (qQr r) wQr R R'
def outQF (q r : Nat) (M R : x_m) (C : Option (Int32 × x_m)) (S : Option x_m) : Prop := ∃ mc mr, C = some (0, mc) ∧ S = some mr ∧ Flt mc mr ∧ fr (pQ q) (qQ q) M mc ∧ fr (pQr r) (qQr r) R mr
theorem q272_f (m : x_m) (h : m.1 387 5 ≠ 0) : B_MD_question_272 m = some m := by
  unfold B_MD_question_272 B_MD_question_310
  rw [if_neg h]
theorem swap_ct (M : x_m) (k s e a b c d : Nat) : x_wR (x_wR (ct M k s e) 114 3 a) 114 4 b = ct (x_wR (x_wR M 114 3 a) 114 4 b) k s e := by
  refine ct_of rfl rfl (fun a b h => ?_) rfl rfl rfl rfl (fun b h1 h2 h3 h4 => ?_) rfl (fun x y h => ?_)
  · exact ct_o M k s e b h
  · show (if (3 : Nat) = 3 then (if b = 2 then xI s else if b = 3 then xI e else if b = 7 then bI (kWb k) else if b = 8 then kUn k else M.1 3 b) else M.1 3 b) = M.1 3 b
    rw [if_pos rfl, if_neg h1, if_neg h2, if_neg h3, if_neg h4]
  · show (if x = 114 ∧ y = 4 then b else if x = 114 ∧ y = 3 then a else (if x = 3 ∧ y = 1 then _ else M.2.2.1 x y)) = (if x = 114 ∧ y = 4 then b else if x = 114 ∧ y = 3 then a else M.2.2.1 x y)
    rw [if_neg h]
theorem ls_q80 {M R mr : x_m} {n D Ms q r e0 k s e ni cc jc sn ng np ns q2 r2 : Nat} {G : (Nat → Bool) → Bool} {fs kd sz : Nat → Nat} (hz : ZQ M R n D Ms q r) (hs : RS R mr k s e) (ht : TF n e0 k s e) (hi : QI M R q r ni) (h1 : 1 ≤ ni) (hc : CndQ M R q r D cc jc sn G) (hg : GS M R q r ng np ns fs kd sz) (hq2 : M.2.2.1 114 3 = q2) (hr2 : R.2.2.1 387 21 = r2) (hq2' : q2 = 115 ∨ q2 = 251) (hr2' : r2 = 395 ∨ r2 = 409) :
    outQ n D q r q2 r2 M R (B_QG_readQuestion_80 (ct M k s e)) (B_MD_question_130 mr) (mu n k e) ∨ outQF q r M R (B_QG_readQuestion_80 (ct M k s e)) (B_MD_question_130 mr) := by
  have hq := hz.2.2.2.2.2.1
  have hr := hz.2.2.2.2.2.2
  have hq1 := hz.2.2.2.1
  have hr1 := hz.2.2.2.2.1
  obtain ⟨t1, t2, t3, t4, t5, t6, t7⟩ := ht
  have n8 := hg.1.1
  have ni24 := hi.1
  unfold B_QG_readQuestion_80
  rw [F_LX_at_eq M (s := s) (e := e) (j := 8) t4 (by omega) (by omega)]
  by_cases k8 : k = 8
  · subst k8
    have eq := RS_good hs (by omega) (by omega)
    subst eq
    rw [if_pos rfl, Option.bind_some]
    simp only [show ((1 : Int32) = 0) = False from by decide, if_false]
    rw [show (ct M 8 s e).2.2.1 114 4 = q from hq1, if_pos (y_qb hq)]
    unfold F_QU_firstUngrouped B_MD_question_130
    have is := F_MD_isSign_eq R (s := s) (e := e) t4 (show 8 ≠ 1 by omega) (by omega) (j := 8) (by omega) (by omega)
    rw [show bI (decide (8 = 8)) = 1 from rfl] at is
    rw [show F_MD_isSign 59 (rt R 8 s e) = _ from is, Option.bind_some]
    simp only []
    rw [F_MD_must_1 (rt R 8 s e) (Zl_5 hz.1), Option.bind_some]
    simp only []
    have pf := p_fu (M := ct M 8 s e) (q := q) (ni := ni) (ng := ng) (by rw [ct_o _ _ _ _ _ (by omega)]; exact hi.2.1) ni24 (by rw [ct_o _ _ _ _ _ (by omega)]; exact hg.1.2.1) n8 ni 0 x_fu (by omega) (by unfold x_fu; omega)
    have rro : ∀ a b, a ≠ 387 → (rt R 8 s e).1 a b = R.1 a b := fun a b h => (fr_rt R 8 s e).1 a b (fun z => h z.1)
    have pr := p_143 (m := rt R 8 s e) (r := r) (ni := ni) (ng := ng) hr1 hr (Zl_5 hz.1) (by rw [rro _ _ (by omega)]; exact hi.2.2.1) ni24 (by rw [rro _ _ (by omega)]; exact hg.1.2.2.1) n8 (fun i hii => by obtain ⟨t, x1, x2, x3⟩ := (hi.2.2.2 i hii).1; exact ⟨t, x1, x3⟩) ni 0 x_fu (by omega) (by unfold x_fu; omega)
    rw [show (0 : Int32) = xI 0 from rfl, pf, pr, Option.bind_some]
    have fe : fug (ct M 8 s e) q ng ni 0 = fug (rt R 8 s e) r ng ni 0 := by
      refine fug_congr ni 0 (fun j _ hj => ?_)
      unfold ug
      obtain ⟨⟨t, x1, x2, x3⟩, x4, _⟩ := hi.2.2.2 j (by omega)
      show ((decide (M.2.1 (q + 1) j = 0) || decide (M.2.1 (q + 1) j = 5)) && !(mem8 (M.2.1 (q + 4)) (M.2.1 (q + 2) j) ng 0)) = ((decide (R.2.1 (r + 1) j = 0) || decide (R.2.1 (r + 1) j = 5)) && !(mem8 (R.2.1 (r + 4)) (R.2.1 (r + 2) j) ng 0))
      rw [x2, x3, x4, mem8_eq hg.1]
    rw [fe]
    cases hf : fug (rt R 8 s e) r ng ni 0 with
    | some j =>
      right
      have jl := fug_lt _ _ _ _ _ _ hf
      obtain ⟨_, _, p, p1, p2, p3⟩ := hi.2.2.2 j (by omega)
      simp only []
      rw [show (ct M 8 s e).2.1 (q + 3) j = xI p from p2, if_neg (fun z => xI_not_neg (j := p) (by omega) (by rw [z]; decide)), show (rt R 8 s e).2.1 (r + 3) j = xI p from p3, q272_f _ (show (11 : Int32) ≠ 0 by decide)]
      exact ⟨_, _, rfl, rfl, Flt_cr _ _ _ _ (by decide), upq (fr_trans (fr_ct _ _ _ _) (fr_cf _ _ _)), upqr (fr_trans (fr_rt _ _ _ _) (fr_rf _ _ _))⟩
    | none =>
      left
      simp only [if_true]
      rw [show (ct M 8 s e).2.2.1 114 3 = q2 from hq2, if_pos (y_qb hq2'), show (ct M 8 s e).2.2.1 114 4 = q from hq1, if_pos (y_qb hq), swap_ct _ _ _ _ _ _ 0 0]
      obtain ⟨m', v1, v2, v3, v4, v5, v6⟩ := F_MD_spread_eq (m := rt R 8 s e) (r := r) n8 (Nat.le_trans hg.2.2.1 n8) hg.2.2.2.2.2.2.1 hg.2.2.2.2.2.2.2.2 (by rw [rro _ _ (by omega)]; exact hg.1.2.2.1) (by rw [rro _ _ (by omega)]; exact hg.2.1) hg.2.2.2.1
      unfold B_MD_question_272 B_MD_question_310
      rw [if_pos (show (rt R 8 s e).1 387 5 = 0 from Zl_5 hz.1), show (rt R 8 s e).2.2.1 387 22 = r from hr1, if_pos (y_mq hr), v1, Option.bind_some]
      have w21 : m'.2.2.1 387 21 = r2 := by rw [v6]; exact hr2
      have w22 : m'.2.2.1 387 22 = r := by rw [v6]; exact hr1
      rw [w21, w22, if_pos (y_mq hr2'), if_pos (y_mq hr)]
      have rr : ∀ a b, ¬ (a = r ∧ b = 9) → ¬ (a = 387 ∧ b = 23) → (x_wS (x_wR (x_wR m' 387 21 r) 387 22 r2) 387 23 1).1 a b = (rt R 8 s e).1 a b := by
        intro a b x y
        show (if a = 387 ∧ b = 23 then _ else m'.1 a b) = _
        rw [if_neg y]; exact v4 a b x
      have r2' : ∀ a, a ≠ r + 7 → (x_wS (x_wR (x_wR m' 387 21 r) 387 22 r2) 387 23 1).2.1 a = R.2.1 a := fun a h => v5 a h
      have r3 : (x_wS (x_wR (x_wR m' 387 21 r) 387 22 r2) 387 23 1).2.1 (r + 7) = m'.2.1 (r + 7) := rfl
      have r9 : (x_wS (x_wR (x_wR m' 387 21 r) 387 22 r2) 387 23 1).1 r 9 = xI ns := by
        show (if r = 387 ∧ 9 = 23 then _ else m'.1 r 9) = _
        rw [if_neg (by omega)]; exact v2
      have r23 : (x_wS (x_wR (x_wR m' 387 21 r) 387 22 r2) 387 23 1).1 387 23 = 1 := rfl
      have rw1 : ∀ a b, ¬ (a = 387 ∧ (b = 21 ∨ b = 22)) → (x_wS (x_wR (x_wR m' 387 21 r) 387 22 r2) 387 23 1).2.2.1 a b = R.2.2.1 a b := by
        intro a b x
        show (if a = 387 ∧ b = 22 then _ else if a = 387 ∧ b = 21 then _ else m'.2.2.1 a b) = _
        rw [if_neg (by omega), if_neg (by omega), v6]; rfl
      have rw21 : (x_wS (x_wR (x_wR m' 387 21 r) 387 22 r2) 387 23 1).2.2.1 387 21 = r := rfl
      have rw22 : (x_wS (x_wR (x_wR m' 387 21 r) 387 22 r2) 387 23 1).2.2.1 387 22 = r2 := rfl
      have rw4 : (x_wS (x_wR (x_wR m' 387 21 r) 387 22 r2) 387 23 1).2.2.2 = R.2.2.2 := by
        show m'.2.2.2 = _
        rw [v6]; rfl
      generalize x_wS (x_wR (x_wR m' 387 21 r) 387 22 r2) 387 23 1 = Rf at *
      have ers : Rf = rt Rf 8 s e := rt_self (R := R) (fun b hb => rr 387 b (by omega) (by omega))
      refine ⟨x_wR (x_wR M 114 3 q) 114 4 q2, Rf, s, e, rfl, congrArg some ers, t1, t2, Nat.le_refl _, ⟨ni, ng, ns, cc, jc, sn, fs, G, h1, QI_k hi rfl ?_ (fun _ _ _ => rfl) (fun a x y => r2' a (by omega)), GQ_k hg.1 rfl ?_ rfl (r2' _ (by omega)), hg.2.2.2.2.2.2.1, hg.2.2.2.2.1, r9, fun i hii => ⟨hg.2.2.2.2.2.2.2.1 i hii, by rw [r3]; exact v3 i hii⟩, CndQ_k hc hq hz.2.1.2.2.1 (fun _ _ _ _ => rfl) (fun _ _ _ => rfl) (fun _ _ => rfl) ?_ ?_ (fun a x y => r2' a (by omega))⟩, rfl, rfl, rw21, rw22, r23, ?_, ⟨fun _ _ _ => rfl, fun _ _ => rfl, fun a b x => ?_, rfl⟩, ⟨fun a b x => ?_, fun a x => r2' a (fun z => x (by unfold qQr; omega)), fun a b x => rw1 a b (fun z => x (Or.inr z)), rw4⟩⟩
      · rw [rr _ _ (by omega) (by omega), rro _ _ (by omega)]
      · rw [rr _ _ (by omega) (by omega), rro _ _ (by omega)]
      · rw [rr _ _ (by omega) (by omega), rro _ _ (by omega)]
      · rw [rr _ _ (by omega) (by omega), rro _ _ (by omega)]
      · exact ⟨(rr _ _ (by omega) (by omega)).trans (Zl_f hz.1).1, (Zl_f hz.1).2.1, (Zl_f hz.1).2.2.1, (rr _ _ (by omega) (by omega)).trans (Zl_f hz.1).2.2.2⟩
      · unfold wQ at x
        show (if a = 114 ∧ b = 4 then _ else if a = 114 ∧ b = 3 then _ else M.2.2.1 a b) = _
        rw [if_neg (by omega), if_neg (by omega)]
      · unfold pQr' pQr at x
        rw [rr a b (by omega) (by omega)]
        exact (fr_rt R 8 s e).1 a b (fun z => by unfold pR at z; omega)
  · right
    rw [if_neg k8, Option.bind_some]
    simp only [if_true]
    by_cases hb : k = 1 ∨ k = 36
    · obtain ⟨b1, b2, b3⟩ := RS_bad hs hb
      have p5 : 0 < mr.1 387 5 := by rw [b1]; exact kUn_pos k
      rw [q130_f mr p5 (by rw [b3.2.2.1 _ _ (by omega), hr1]; exact y_mq hr)]
      exact ⟨_, _, rfl, rfl, ⟨b1.symm, b2.symm, p5⟩, upq (fr_trans (fr_ct _ _ _ _) (fr_cf _ _ _)), upqr b3⟩
    · have x1 : k ≠ 1 := fun w => hb (Or.inl w)
      have x2 : k ≠ 36 := fun w => hb (Or.inr w)
      have eq := RS_good hs x1 x2
      subst eq
      have is := F_MD_isSign_eq R (s := s) (e := e) t4 x1 x2 (j := 8) (by omega) (by omega)
      unfold B_MD_question_130
      rw [show F_MD_isSign 59 (rt R k s e) = _ from is, Option.bind_some]
      simp only [decide_eq_false k8, show bI false = 0 from rfl]
      rw [F_MD_must_0 R t4 x1 x2 (Zl_5 hz.1), Option.bind_some]
      simp only []
      have p5 : (rf (rt R k s e) (kUn k) (xI s)).1 387 5 ≠ 0 := ne_pos (kUn_pos k)
      rw [show x_fu = 199999 + 1 from rfl, q143_f (r := r) _ _ p5 hr1 hr, q272_f _ p5]
      exact ⟨_, _, rfl, rfl, Flt_cr _ _ _ _ (kUn_pos k), upq (fr_trans (fr_ct _ _ _ _) (fr_cf _ _ _)), upqr (fr_trans (fr_rt _ _ _ _) (fr_rf _ _ _))⟩
