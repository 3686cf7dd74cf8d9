/-! class and reference in step -/
/-- what may have changed: ints of objects in P, arrays in Q, no reference but the lexer's kind -/
def fr (P : Nat → Nat → Prop) (Q : Nat → Prop) (m m' : x_m) : Prop := (∀ a b, ¬ P a b → m'.1 a b = m.1 a b) ∧ (∀ a, ¬ Q a → m'.2.1 a = m.2.1 a) ∧ (∀ a b, ¬ (a = 3 ∧ b = 1) → m'.2.2.1 a b = m.2.2.1 a b) ∧ m'.2.2.2 = m.2.2.2
theorem fr_refl (P : Nat → Nat → Prop) (Q : Nat → Prop) (m : x_m) : fr P Q m m := ⟨fun _ _ _ => rfl, fun _ _ => rfl, fun _ _ _ => rfl, rfl⟩
theorem fr_trans {P : Nat → Nat → Prop} {Q : Nat → Prop} {m m' m'' : x_m} (h : fr P Q m m') (h' : fr P Q m' m'') : fr P Q m m'' :=
  ⟨fun a b p => (h'.1 a b p).trans (h.1 a b p), fun a p => (h'.2.1 a p).trans (h.2.1 a p), fun a b p => (h'.2.2.1 a b p).trans (h.2.2.1 a b p), h'.2.2.2.trans h.2.2.2⟩
theorem fr_mono {P P' : Nat → Nat → Prop} {Q Q' : Nat → Prop} {m m' : x_m} (h : fr P Q m m') (hp : ∀ a b, P a b → P' a b) (hq : ∀ a, Q a → Q' a) : fr P' Q' m m' :=
  ⟨fun a b p => h.1 a b (fun z => p (hp a b z)), fun a p => h.2.1 a (fun z => p (hq a z)), h.2.2.1, h.2.2.2⟩
/-- the lexer's own -/
def pC (a _b : Nat) : Prop := a = 3
def pR (a b : Nat) : Prop := a = 387 ∧ 5 ≤ b ∧ b ≤ 12
def q0 (_a : Nat) : Prop := False
theorem fr_wS (P : Nat → Nat → Prop) (Q : Nat → Prop) (m : x_m) {p k : Nat} (v : Int32) (h : P p k) : fr P Q m (x_wS m p k v) := by
  refine ⟨fun a b z => ?_, fun _ _ => rfl, fun _ _ _ => rfl, rfl⟩
  show (if a = p ∧ b = k then _ else _) = _
  rw [if_neg (fun y => z (by rw [y.1, y.2]; exact h))]
theorem fr_wA (P : Nat → Nat → Prop) (Q : Nat → Prop) (m : x_m) {p k : Nat} (v : Int32) (h : Q p) : fr P Q m (x_wA m p k v) := by
  refine ⟨fun _ _ _ => rfl, fun a z => ?_, fun _ _ _ => rfl, rfl⟩
  funext b
  show (if a = p ∧ b = k then _ else _) = _
  rw [if_neg (fun y => z (by rw [y.1]; exact h))]
theorem fr_ct (m : x_m) (k s e : Nat) : fr pC q0 m (ct m k s e) := by
  refine ⟨fun a b z => ?_, fun _ _ => rfl, fun a b z => ?_, rfl⟩
  · show (if a = 3 then _ else _) = _
    rw [if_neg (show ¬ a = 3 from z)]
  · show (if a = 3 ∧ b = 1 then _ else _) = _
    rw [if_neg z]
theorem fr_cnb (m : x_m) (k : Nat) (v : Int32) : fr pC q0 m (cnb m k v) := by
  unfold cnb
  by_cases h : kNu k = true
  · rw [if_pos h]; exact fr_wS _ _ _ _ rfl
  · rw [if_neg h]; exact fr_refl _ _ _
theorem fr_cf (m : x_m) (f p : Int32) : fr pC q0 m (cf m f p) := fr_trans (fr_wS _ _ _ _ rfl) (fr_wS _ _ _ _ rfl)
theorem fr_rt (m : x_m) (k s e : Nat) : fr pR q0 m (rt m k s e) := by
  refine ⟨fun a b z => ?_, fun _ _ => rfl, fun _ _ _ => rfl, rfl⟩
  show (if a = 387 then _ else _) = _
  by_cases h : a = 387
  · subst h
    rw [if_pos rfl]
    have : ¬ (5 ≤ b ∧ b ≤ 12) := fun y => z ⟨rfl, y⟩
    rw [if_neg (by omega), if_neg (by omega), if_neg (by omega), if_neg (by omega), if_neg (by omega)]
  · rw [if_neg h]
theorem fr_rnb (m : x_m) (k : Nat) (v : Int32) : fr pR q0 m (rnb m k v) := by
  unfold rnb
  by_cases h : k = 2
  · rw [if_pos h]; exact fr_wS _ _ _ _ ⟨rfl, by omega, by omega⟩
  · rw [if_neg h]; exact fr_refl _ _ _
theorem fr_rf (m : x_m) (f p : Int32) : fr pR q0 m (rf m f p) := fr_trans (fr_wS _ _ _ _ ⟨rfl, by omega, by omega⟩) (fr_wS _ _ _ _ ⟨rfl, by omega, by omega⟩)
/-- both have told the same fault -/
def Flt (mc mr : x_m) : Prop := mc.1 3 5 = mr.1 387 5 ∧ mc.1 3 6 = mr.1 387 6 ∧ 0 < mr.1 387 5
theorem Flt_cr (M R : x_m) (X p : Int32) (h : 0 < X) : Flt (cf M X p) (rf R X p) := ⟨rfl, rfl, h⟩
theorem kUn_pos (k : Nat) : 0 < kUn k := by
  unfold kUn
  split
  · decide
  · split
    · decide
    · split <;> decide
/-- text and names are the same -/
def NK (M R : x_m) : Prop := R.2.1 393 = M.2.1 6 ∧ R.2.1 394 = M.2.1 7 ∧ ∀ j, ∃ l, l ≤ 40 ∧ M.2.1 7 j = xI l
/-- no fault is told -/
def Fz (M R : x_m) : Prop := R.1 387 5 = 0 ∧ M.1 3 5 = 0 ∧ M.1 3 6 = -1 ∧ R.1 387 6 = -1
theorem Fz_S {M R : x_m} {p k : Nat} {v : Int32} (h : Fz M R) (hp : p ≠ 3) : Fz (x_wS M p k v) R := by
  refine ⟨h.1, ?_, ?_, h.2.2.2⟩
  · show (if 3 = p ∧ 5 = k then _ else _) = _
    rw [if_neg (by omega)]; exact h.2.1
  · show (if 3 = p ∧ 6 = k then _ else _) = _
    rw [if_neg (by omega)]; exact h.2.2.1
theorem Fz_Sr {M R : x_m} {p k : Nat} {v : Int32} (h : Fz M R) (hp : p ≠ 387 ∨ (k ≠ 5 ∧ k ≠ 6)) : Fz M (x_wS R p k v) := by
  refine ⟨?_, h.2.1, h.2.2.1, ?_⟩
  · show (if 387 = p ∧ 5 = k then _ else _) = _
    rw [if_neg (by omega)]; exact h.1
  · show (if 387 = p ∧ 6 = k then _ else _) = _
    rw [if_neg (by omega)]; exact h.2.2.2
theorem Fz_f {M R M' : x_m} {P : Nat → Nat → Prop} {Q : Nat → Prop} (h : Fz M R) (f : fr P Q M M') (h5 : ¬ P 3 5) (h6 : ¬ P 3 6) : Fz M' R := ⟨h.1, (f.1 _ _ h5).trans h.2.1, (f.1 _ _ h6).trans h.2.2.1, h.2.2.2⟩
theorem Fz_fr {M R R' : x_m} {P : Nat → Nat → Prop} {Q : Nat → Prop} (h : Fz M R) (f : fr P Q R R') (h5 : ¬ P 387 5) (h6 : ¬ P 387 6) : Fz M R' := ⟨(f.1 _ _ h5).trans h.1, h.2.1, h.2.2.1, (f.1 _ _ h6).trans h.2.2.2⟩
theorem Fz_A {M R : x_m} {p k : Nat} {v : Int32} (h : Fz M R) : Fz (x_wA M p k v) R := h
theorem Fz_Ar {M R : x_m} {p k : Nat} {v : Int32} (h : Fz M R) : Fz M (x_wA R p k v) := h
def Zl (M R : x_m) (n : Nat) : Prop := n ≤ 20000 ∧ M.1 1 1 = xI n ∧ (∀ j, isB (M.2.1 2 j)) ∧ R.1 387 4 = xI n ∧ R.2.1 388 = M.2.1 2 ∧ Fz M R ∧ NK M R
theorem Zl_c {M R : x_m} {n : Nat} (h : Zl M R n) : Lc M n := ⟨h.1, h.2.1, h.2.2.1⟩
theorem Zl_r {M R : x_m} {n : Nat} (h : Zl M R n) : Lr R n := ⟨h.1, h.2.2.2.1, by rw [h.2.2.2.2.1]; exact h.2.2.1, h.2.2.2.2.2.1.1⟩
theorem Zl_5 {M R : x_m} {n : Nat} (h : Zl M R n) : R.1 387 5 = 0 := h.2.2.2.2.2.1.1
theorem Zl_f {M R : x_m} {n : Nat} (h : Zl M R n) : Fz M R := h.2.2.2.2.2.1
theorem Zl_cnb {M R : x_m} {n : Nat} (h : Zl M R n) (k : Nat) (v : Int32) (k' : Nat) (v' : Int32) : Zl (cnb M k v) (rnb R k' v') n := by
  have f1 := fr_cnb M k v
  have f2 := fr_rnb R k' v'
  obtain ⟨a1, a2, a3, a4, a5, a6, a7, a8, a9⟩ := h
  have e5' : Fz (cnb M k v) R := by
    unfold cnb
    by_cases h : kNu k = true
    · rw [if_pos h]; exact a6
    · rw [if_neg h]; exact a6
  have e5 : Fz (cnb M k v) (rnb R k' v') := by
    unfold rnb
    by_cases h : k' = 2
    · rw [if_pos h]; exact e5'
    · rw [if_neg h]; exact e5'
  refine ⟨a1, (f1.1 1 1 (by unfold pC; omega)).trans a2, ?_, (f2.1 387 4 (by unfold pR; omega)).trans a4, ?_, e5, ?_, ?_, ?_⟩
  · rw [f1.2.1 2 id]; exact a3
  · rw [f1.2.1 2 id, f2.2.1 388 id]; exact a5
  · rw [f1.2.1 6 id, f2.2.1 393 id]; exact a7
  · rw [f1.2.1 7 id, f2.2.1 394 id]; exact a8
  · rw [f1.2.1 7 id]; exact a9
theorem NK_fr {M R M' R' : x_m} (h : NK M R) (f : fr pC q0 M M') (g : fr pR q0 R R') : NK M' R' := by
  refine ⟨?_, ?_, ?_⟩
  · rw [f.2.1 6 id, g.2.1 393 id]; exact h.1
  · rw [f.2.1 7 id, g.2.1 394 id]; exact h.2.1
  · rw [f.2.1 7 id]; exact h.2.2
theorem Zl_nk {M R : x_m} {n : Nat} (h : Zl M R n) : NK M R := h.2.2.2.2.2.2
theorem step {M R : x_m} {n : Nat} (h : Zl M R n) {k s e : Nat} (he : e ≤ n) : ∃ k' s' e' v', F_LX_advance (ct M k s e) = some (ct (cnb M k' v') k' s' e') ∧ s' ≤ e' ∧ e' ≤ n ∧ e ≤ s' ∧ k' ≤ 36 ∧ (k' ≠ 0 → e < e') ∧ (k' = 3 → e' - s' ≤ 40) ∧ (k' = 4 → 40 < e' - s') ∧
    ((k' ≠ 1 ∧ k' ≠ 36 ∧ F_MD_read (rt R k s e) = some (rt (rnb R k' v') k' s' e')) ∨ ((k' = 1 ∨ k' = 36) ∧ ∃ e2, F_MD_read (rt R k s e) = some (rf (rt R k' s' e2) (kUn k') (xI s')))) := by
  have h1 := adv_ct (Zl_c h) (k := k) (s := s) he
  have h2 := read_rt (Zl_r h) (k := k) (s := s) he
  rw [h.2.2.2.2.1] at h2
  obtain ⟨o1, o2, o3, o4, o5, o6, o7⟩ := lx_ok (Zl_c h).2.2 he
  generalize lx (M.2.1 2) n e = t at *
  refine ⟨t.1, t.2.1, t.2.2.1, t.2.2.2, h1, o2, o3, o1, o5, fun z => (o4 z).1, o6, o7, ?_⟩
  unfold rtT at h2
  by_cases b1 : t.1 = 1
  · rw [if_pos b1] at h2
    refine Or.inr ⟨Or.inl b1, t.2.1, ?_⟩
    rw [h2, b1]; rfl
  · rw [if_neg b1] at h2
    by_cases b2 : t.1 = 36
    · rw [if_pos b2] at h2
      refine Or.inr ⟨Or.inr b2, t.2.2.1, ?_⟩
      rw [h2, b2]; rfl
    · rw [if_neg b2] at h2
      exact Or.inl ⟨b1, b2, h2⟩
theorem cnb_no {M : x_m} {k : Nat} {v : Int32} (h1 : k ≠ 2) (h2 : k ≠ 36) : cnb M k v = M := by
  unfold cnb kNu
  rw [if_neg (by simp; omega)]
theorem rnb_no {R : x_m} {k : Nat} {v : Int32} (h1 : k ≠ 2) : rnb R k v = R := by
  unfold rnb
  rw [if_neg h1]
/-- a sign that must stand next -/
theorem ls_next {M R : x_m} {n : Nat} (h : Zl M R n) {k s e j : Nat} (he : e ≤ n) (hj : 5 ≤ j) (hj2 : j < 17) :
    (∃ s' e', F_LX_next (x_N + j) (ct M k s e) = some (1, ct M j s' e') ∧ F_MD_needSign (rSg j) (rt R k s e) = some (1, rt R j s' e') ∧ s' ≤ e' ∧ e' ≤ n ∧ e < e' ∧ e ≤ s') ∨
    (∃ mc mr, F_LX_next (x_N + j) (ct M k s e) = some (0, mc) ∧ F_MD_needSign (rSg j) (rt R k s e) = some (0, mr) ∧ Flt mc mr ∧ fr pC q0 M mc ∧ fr pR q0 R mr) := by
  obtain ⟨k', s', e', v', h1, h2, h3, h4, h5, h6, h7, h8, h9⟩ := step h he (k := k) (s := s)
  unfold F_LX_next F_MD_needSign
  simp only [h1, Option.bind_some, F_LX_at_eq (cnb M k' v') (s := s') (e := e') h5 (show j ≠ 1 by omega) (show j < 36 by omega)]
  rcases h9 with ⟨g1, g2, g3⟩ | ⟨g1, e2, g2⟩
  · simp only [g3, Option.bind_some, F_MD_isSign_eq (rnb R k' v') (s := s') (e := e') h5 g1 g2 hj hj2]
    have z5 : (rnb R k' v').1 387 5 = 0 := Zl_5 (Zl_cnb h k' v' k' v')
    by_cases hk : k' = j
    · left
      have m1 := F_MD_must_1 (rt (rnb R k' v') k' s' e') z5
      rw [decide_eq_true hk, show bI true = 1 from rfl]
      simp only [if_pos hk, m1, Option.bind_some]
      rw [cnb_no (by omega) (by omega), rnb_no (by omega)]
      subst hk
      exact ⟨s', e', rfl, rfl, h2, h3, h6 (by omega), h4⟩
    · right
      have m0 := F_MD_must_0 (rnb R k' v') (s := s') (e := e') h5 g1 g2 z5
      rw [decide_eq_false hk, show bI false = 0 from rfl]
      simp only [if_neg hk, m0, Option.bind_some]
      exact ⟨_, _, rfl, rfl, Flt_cr _ _ _ _ (kUn_pos k'), fr_trans (fr_cnb _ _ _) (fr_trans (fr_ct _ _ _ _) (fr_cf _ _ _)), fr_trans (fr_rnb _ _ _) (fr_trans (fr_rt _ _ _ _) (fr_rf _ _ _))⟩
  · right
    obtain ⟨b, hb⟩ := F_MD_isSign_any (rSg j) (rf (rt R k' s' e2) (kUn k') (xI s'))
    have mf := F_MD_must_f (rf (rt R k' s' e2) (kUn k') (xI s')) (bI b) (show kUn k' ≠ 0 from fun z => by have := kUn_pos k'; rw [z] at this; exact absurd this (by decide))
    simp only [if_neg (show ¬ k' = j by omega), g2, Option.bind_some, hb, mf]
    exact ⟨_, _, rfl, rfl, Flt_cr _ _ _ _ (kUn_pos k'), fr_trans (fr_cnb _ _ _) (fr_trans (fr_ct _ _ _ _) (fr_cf _ _ _)), fr_trans (fr_rt _ _ _ _) (fr_rf _ _ _)⟩
/-- the reference behind a token: at it, or stuck at it -/
def RS (R mr : x_m) (k s e : Nat) : Prop := (k ≠ 1 ∧ k ≠ 36 ∧ mr = rt R k s e) ∨ ((k = 1 ∨ k = 36) ∧ ∃ e2, mr = rf (rt R k s e2) (kUn k) (xI s))
def TF (n e k s e' : Nat) : Prop := s ≤ e' ∧ e' ≤ n ∧ e ≤ s ∧ k ≤ 36 ∧ (k ≠ 0 → e < e') ∧ (k = 3 → e' - s ≤ 40) ∧ (k = 4 → 40 < e' - s)
theorem step2 {M R : x_m} {n : Nat} (h : Zl M R n) {k s e : Nat} (he : e ≤ n) : ∃ M' R' mr k' s' e', F_LX_advance (ct M k s e) = some (ct M' k' s' e') ∧ F_MD_read (rt R k s e) = some mr ∧ RS R' mr k' s' e' ∧ Zl M' R' n ∧ fr pC q0 M M' ∧ fr pR q0 R R' ∧ TF n e k' s' e' ∧ (k' = 2 → M'.1 3 4 = R'.1 387 11) ∧ (k' ≠ 2 → k' ≠ 36 → M' = M ∧ R' = R) := by
  obtain ⟨k', s', e', v', h1, h2, h3, h4, h5, h6, h7, h8, h9⟩ := step h he (k := k) (s := s)
  rcases h9 with ⟨g1, g2, g3⟩ | ⟨g1, e2, g2⟩
  · refine ⟨_, rnb R k' v', _, k', s', e', h1, g3, Or.inl ⟨g1, g2, rfl⟩, Zl_cnb h k' v' k' v', fr_cnb _ _ _, fr_rnb _ _ _, ⟨h2, h3, h4, h5, h6, h7, h8⟩, ?_, fun a b => ⟨cnb_no a b, rnb_no a⟩⟩
    intro z; subst z; rfl
  · refine ⟨_, R, _, k', s', e', h1, g2, Or.inr ⟨g1, e2, rfl⟩, ?_, fr_cnb _ _ _, fr_refl _ _ _, ⟨h2, h3, h4, h5, h6, h7, h8⟩, ?_, fun a b => ⟨cnb_no a b, rfl⟩⟩
    · have := Zl_cnb h k' v' k' v'
      rwa [rnb_no (by omega)] at this
    · intro z; omega
theorem kUn_ne (k : Nat) : kUn k ≠ 0 := fun z => by have := kUn_pos k; rw [z] at this; exact absurd this (by decide)
theorem RS_good {R mr : x_m} {k s e : Nat} (h : RS R mr k s e) (h1 : k ≠ 1) (h36 : k ≠ 36) : mr = rt R k s e := by
  rcases h with ⟨_, _, h⟩ | ⟨h, _⟩
  · exact h
  · omega
theorem RS_bad {R mr : x_m} {k s e : Nat} (h : RS R mr k s e) (hb : k = 1 ∨ k = 36) : mr.1 387 5 = kUn k ∧ mr.1 387 6 = xI s ∧ fr pR q0 R mr := by
  rcases h with ⟨_, _, _⟩ | ⟨_, e2, h⟩
  · omega
  · subst h
    exact ⟨rfl, rfl, fr_trans (fr_rt _ _ _ _) (fr_rf _ _ _)⟩
/-- the reference's way of asking whether a row goes on -/
def sepM {α : Type} (K : Int32 → x_m → Option α) (s0 : Int32) (m : x_m) : Option α := (F_MD_must s0 m).bind fun r => (if r.1 = 0 then K 0 r.2 else ((F_MD_isSign 44 r.2).bind fun r' => (if r'.1 = 0 then K 0 r'.2 else K 1 r'.2)))
def sep2 {α : Type} (c2 : Int32) (K : Int32 → x_m → Option α) (m : x_m) : Option α := (F_MD_isSign 44 m).bind fun r => (if r.1 = 0 then ((F_MD_isSign c2 r.2).bind fun r' => (if r'.1 = 0 then sepM K 0 r'.2 else sepM K 1 r'.2)) else sepM K 1 r.2)
theorem sep2_f {α : Type} (c2 : Int32) (K : Int32 → x_m → Option α) (m : x_m) (h : m.1 387 5 ≠ 0) : sep2 c2 K m = K 0 m := by
  unfold sep2 sepM
  obtain ⟨b, hb⟩ := F_MD_isSign_any 44 m
  obtain ⟨b', hb'⟩ := F_MD_isSign_any c2 m
  simp only [hb, hb', Option.bind_some, F_MD_must_f m _ h, if_true]
  split
  · split <;> rfl
  · rfl
theorem sep2_eq {α : Type} (K : Int32 → x_m → Option α) {R mr : x_m} {k s e j : Nat} (h : RS R mr k s e) (h5 : R.1 387 5 = 0) (hk : k ≤ 36) (hj : j = 6 ∨ j = 8) :
    (k = 7 → sep2 (rSg j) K mr = K 1 (rt R k s e)) ∧ (k = j → sep2 (rSg j) K mr = K 0 (rt R k s e)) ∧ (k ≠ 7 → k ≠ j → ∃ mr', sep2 (rSg j) K mr = K 0 mr' ∧ mr'.1 387 5 = kUn k ∧ mr'.1 387 6 = xI s ∧ fr pR q0 R mr') := by
  by_cases hb : k = 1 ∨ k = 36
  · obtain ⟨b1, b2, b3⟩ := RS_bad h hb
    refine ⟨fun z => by omega, fun z => by omega, fun _ _ => ⟨mr, sep2_f _ K mr (by rw [b1]; exact kUn_ne k), b1, b2, b3⟩⟩
  · have g1 : k ≠ 1 := fun z => hb (Or.inl z)
    have g2 : k ≠ 36 := fun z => hb (Or.inr z)
    have e := RS_good h g1 g2
    subst e
    have i7 : F_MD_isSign 44 (rt R k s e) = some (bI (decide (k = 7)), rt R k s e) := F_MD_isSign_eq R hk g1 g2 (j := 7) (by omega) (by omega)
    have ij := F_MD_isSign_eq R (s := s) (e := e) hk g1 g2 (j := j) (by omega) (by omega)
    have m1 := F_MD_must_1 (rt R k s e) h5
    have m0 := F_MD_must_0 R (s := s) (e := e) hk g1 g2 h5
    unfold sep2 sepM
    refine ⟨fun z => ?_, fun z => ?_, fun z1 z2 => ⟨rf (rt R k s e) (kUn k) (xI s), ?_, rfl, rfl, fr_trans (fr_rt _ _ _ _) (fr_rf _ _ _)⟩⟩
    · rw [decide_eq_true z] at i7
      simp only [i7, show bI true = 1 from rfl, Option.bind_some, m1, show ((1 : Int32) = 0) = False from by decide, if_false]
    · rw [decide_eq_false (show ¬ k = 7 by omega)] at i7
      rw [decide_eq_true z] at ij
      simp only [i7, ij, show bI true = 1 from rfl, show bI false = 0 from rfl, Option.bind_some, m1, show ((1 : Int32) = 0) = False from by decide, if_false, if_true]
    · rw [decide_eq_false z1] at i7
      rw [decide_eq_false z2] at ij
      simp only [i7, ij, show bI false = 0 from rfl, Option.bind_some, m0, if_true]
/-- a name looked up: told 5 if it is none, the same on both sides -/
def nmd (L ln b : Nat → Int32) (k s e first cnt : Nat) : Int32 := if k = 3 then nmI L ln b s e first cnt 0 else -1
def nmX (k : Nat) : Int32 := if kWb k = true then 5 else kUn k
theorem nmX_pos (k : Nat) : 0 < nmX k := by
  unfold nmX
  split
  · decide
  · exact kUn_pos k
theorem ne_pos {x : Int32} (h : 0 < x) : x ≠ 0 := fun z => by rw [z] at h; exact absurd h (by decide)
theorem F_NM_read_eq {M : x_m} {n : Nat} (hM : Lc M n) {e0 k s e first cnt : Nat} (ht : TF n e0 k s e) (hf : first + cnt ≤ 48) :
    (∃ j, j < cnt ∧ k = 3 ∧ nmI (M.2.1 6) (M.2.1 7) (M.2.1 2) s e first cnt 0 = xI j ∧ F_NM_read (xI first) (xI cnt) (ct M k s e) = some (xI j, ct M k s e)) ∨
    ((k = 3 → nmI (M.2.1 6) (M.2.1 7) (M.2.1 2) s e first cnt 0 = -1) ∧ F_NM_read (xI first) (xI cnt) (ct M k s e) = some (-1, cf (ct M k s e) (nmX k) (xI s))) := by
  obtain ⟨t1, t2, t3, t4, t5, t6, t7⟩ := ht
  unfold F_NM_read B_NM_read_30
  rw [F_LX_atName_eq M t4]
  by_cases h3 : k = 3
  · rw [if_pos h3, Option.bind_some]
    simp only [show ((1 : Int32) = 0) = False from by decide, if_false]
    rw [F_NM_search_eq hf t1 (by have := hM.1; omega) (t6 h3), Option.bind_some]
    simp only []
    rcases nmI_cases (M.2.1 6) (M.2.1 7) (M.2.1 2) s e first cnt 0 with z | ⟨j, j1, j2, z⟩
    · right
      refine ⟨fun _ => z, ?_⟩
      rw [z, if_pos rfl, F_LX_tellHere_eq, Option.bind_some]
      subst h3; rfl
    · left
      refine ⟨j, by omega, h3, z, ?_⟩
      rw [z, if_neg (xI_neg1 (by omega))]
  · right
    rw [if_neg h3]
    exact ⟨fun z => absurd z h3, rfl⟩
/-- the reference's lookup: name() ? among(first, cnt) : 0, then want(.. >= 0, 5, from) -/
def lkR {α : Type} (first : Int32) (cf : x_m → Int32) (K : Int32 → Int32 → x_m → Option α) (m : x_m) : Option α := (F_MD_name m).bind fun r => (if r.1 = 0 then lkR2 K 0 r.2 else ((F_MD_among first (cf r.2) r.2).bind fun r' => lkR2 K r'.1 r'.2))
where lkR2 (K : Int32 → Int32 → x_m → Option α) (s0 : Int32) (m : x_m) : Option α := if s0 < 0 then (F_MD_want 0 5 (m.1 387 8) m).bind (fun r => K s0 r.1 r.2) else (F_MD_want 1 5 (m.1 387 8) m).bind (fun r => K s0 r.1 r.2)
theorem lkR_eq {α : Type} (K : Int32 → Int32 → x_m → Option α) {R mr : x_m} {n e0 k s e first cnt : Nat} (hn : n ≤ 20000) (h : RS R mr k s e) (h5 : R.1 387 5 = 0) (ht : TF n e0 k s e) (hf : first + cnt ≤ 48) (cf : x_m → Int32) (hcf : cf (rt R k s e) = xI cnt) :
    (∀ j, j < cnt → k = 3 → nmI (R.2.1 393) (R.2.1 394) (R.2.1 388) s e first cnt 0 = xI j → lkR (xI first) cf K mr = K (xI j) 1 (rt R k s e)) ∧
    ((k = 3 → nmI (R.2.1 393) (R.2.1 394) (R.2.1 388) s e first cnt 0 = -1) → ∃ mr' a, lkR (xI first) cf K mr = K a 0 mr' ∧ mr'.1 387 5 = nmX k ∧ mr'.1 387 6 = xI s ∧ fr pR q0 R mr') := by
  obtain ⟨t1, t2, t3, t4, t5, t6, t7⟩ := ht
  by_cases hb : k = 1 ∨ k = 36
  · obtain ⟨b1, b2, b3⟩ := RS_bad h hb
    refine ⟨fun j _ z => by omega, fun _ => ⟨mr, 0, ?_, ?_, b2, b3⟩⟩
    · have hne : mr.1 387 5 ≠ 0 := by rw [b1]; exact kUn_ne k
      unfold lkR lkR.lkR2
      simp only [F_MD_name_f mr hne, Option.bind_some, if_true, F_MD_want_f mr _ _ _ hne]
      split <;> rfl
    · rw [b1]; unfold nmX kWb; rw [if_neg (by simp; omega)]
  · have g1 : k ≠ 1 := fun z => hb (Or.inl z)
    have g2 : k ≠ 36 := fun z => hb (Or.inr z)
    have eq := RS_good h g1 g2
    subst eq
    have nm := F_MD_name_eq R (s := s) (e := e) t4 g1 g2 h5 t1 (by omega) t6 t7
    unfold lkR lkR.lkR2
    constructor
    · intro j hj h3 z
      rw [if_pos h3] at nm
      have am := F_MD_among_eq (R := R) (k := k) hf t1 (by omega) (t6 h3)
      rw [z] at am
      simp only [nm, Option.bind_some, show ((1 : Int32) = 0) = False from by decide, if_false, hcf, am, if_neg (xI_not_neg (show j < 2147483648 by omega)), F_MD_want_1 (rt R k s e) _ _ h5]
    · intro hz
      by_cases h3 : k = 3
      · rw [if_pos h3] at nm
        have am := F_MD_among_eq (R := R) (k := k) hf t1 (by omega) (t6 h3)
        rw [hz h3] at am
        refine ⟨rf (rt R k s e) (nmX k) (xI s), -1, ?_, rfl, rfl, fr_trans (fr_rt _ _ _ _) (fr_rf _ _ _)⟩
        simp only [nm, Option.bind_some, show ((1 : Int32) = 0) = False from by decide, if_false, hcf, am, show ((-1 : Int32) < 0) = True from by decide, if_true, F_MD_want_0 (rt R k s e) 5 _ h5 (by decide)]
        subst h3; rfl
      · rw [if_neg h3] at nm
        refine ⟨rf (rt R k s e) (nmX k) (xI s), 0, ?_, rfl, rfl, fr_trans (fr_rt _ _ _ _) (fr_rf _ _ _)⟩
        have wf := F_MD_want_f (rf (rt R k s e) (nmX k) (xI s)) 1 5 ((rf (rt R k s e) (nmX k) (xI s)).1 387 8) (ne_pos (nmX_pos k))
        unfold nmX at wf ⊢
        simp only [nm, Option.bind_some, if_true, show ((0 : Int32) < 0) = False from by decide, if_false, wf]
