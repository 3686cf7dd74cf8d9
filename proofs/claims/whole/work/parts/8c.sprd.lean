/-! the reference's grouping sets -/
theorem shr8 : ∀ m, m < 256 → ∀ c, c < 9 → xI m >>> (xI c &&& 31) = xI (m / 2 ^ c) := by decide +kernel
theorem and8 : ∀ a, a < 256 → ∀ z, z < 9 → xI a &&& xI (2 ^ z - 1) = xI (a % 2 ^ z) := by decide +kernel
theorem roll8 : ∀ h, h < 256 → xI h &&& (xI h + 1) = xI (h &&& (h + 1)) ∧ h &&& (h + 1) < 256 := by decide +kernel
theorem p_spr26 {m : x_m} {r np mm : Nat} (K : Int32 → x_m → Option x_m) {kd sz : Nat → Nat} (hmm : mm < 256) (hp6 : m.1 r 6 = xI np) (hnp : np ≤ 8) (hp : ∀ i, i < np → m.2.1 (r + 5) i = xI (kd i) ∧ m.2.1 (r + 6) i = xI (sz i) ∧ kd i ≤ 2 ∧ sz i ≤ 8) : ∀ (d p col fu : Nat) (is : Bool), p + d = np → col + csum sz d p ≤ 8 → d < fu →
    B_MD_spread_26 r K fu (xI mm) (bI is) (xI col) (xI p) m = if (is && okL kd sz mm d p col) = true then (if x_ix (m.1 r 9) 32 = true then B_MD_spread_167 r K (xI mm) (x_wS (x_wA m (r + 7) (m.1 r 9).toNatClampNeg (xI mm)) r 9 (m.1 r 9 + 1)) else none) else B_MD_spread_167 r K (xI mm) m := by
  intro d
  induction d with
  | zero =>
    intro p col fu is h1 h2 h3
    cases fu with
    | zero => omega
    | succ fu =>
      rw [B_MD_spread_26, hp6, if_pos (by rw [xI_le (by omega) (by omega)]; omega)]
      simp only [bI_0, xw_A1]
      cases is <;> rfl
  | succ d ih =>
    intro p col fu is h1 h2 h3
    cases fu with
    | zero => omega
    | succ fu =>
      obtain ⟨e1, e2, e3, e4⟩ := hp p (by omega)
      rw [csum] at h2
      have hc : col ≤ 8 := by omega
      have ps : 2 ^ sz p ≤ 2 ^ 8 := Nat.pow_le_pow_right (by omega) e4
      have p1 : 1 ≤ 2 ^ sz p := Nat.pow_pos (by omega)
      have hdiv : mm / 2 ^ col < 256 := Nat.lt_of_le_of_lt (Nat.div_le_self _ _) hmm
      have hh : mm / 2 ^ col % 2 ^ sz p < 256 := Nat.lt_of_lt_of_le (Nat.mod_lt _ p1) (by omega)
      have i1 := ih (p + 1) (col + sz p) fu true (by omega) (by omega) (by omega)
      have i0 := ih (p + 1) (col + sz p) fu false (by omega) (by omega) (by omega)
      rw [show bI true = 1 from rfl] at i1
      rw [show bI false = 0 from rfl] at i0
      rw [B_MD_spread_26, hp6, if_neg (by rw [xI_le (by omega) (by omega)]; omega), xI_ix (by omega), xI_cl (by omega), e1, e2, shl_tab _ (by omega), show xI (2 ^ sz p) - 1 = xI (2 ^ sz p - 1) from by rw [show (1 : Int32) = xI 1 from rfl, xI_sub p1], shr8 mm hmm col (by omega), and8 _ hdiv (sz p) (by omega)]
      simp only [show (decide (p < 8) = true) = True from by simp; omega, if_true]
      unfold B_MD_spread_98 B_MD_spread_119 B_MD_spread_123 B_MD_spread_124
      rw [xI_ix (by omega), xI_cl (by omega), e1, e2, xI_add, xI_add1]
      simp only [show (decide (p < 8) = true) = True from by simp; omega, if_true]
      rw [i1, i0, (roll8 _ hh).1]
      have r2 := (roll8 _ hh).2
      simp only [bI_0, show (xI (kd p) = 2) = (kd p = 2) from xI_eq (b := 2) (by omega) (by omega), show (xI (kd p) = 0) = (kd p = 0) from xI_eq (b := 0) (by omega) (by omega), show (xI (kd p) = 1) = (kd p = 1) from xI_eq (b := 1) (by omega) (by omega), xI_eq (a := mm / 2 ^ col % 2 ^ sz p) (b := 2 ^ sz p - 1) (by omega) (by omega), show (xI ((mm / 2 ^ col % 2 ^ sz p) &&& (mm / 2 ^ col % 2 ^ sz p + 1)) = 0) = ((mm / 2 ^ col % 2 ^ sz p) &&& (mm / 2 ^ col % 2 ^ sz p + 1) = 0) from xI_eq (b := 0) (by omega) (by omega)]
      rw [okL]
      unfold pOK
      generalize mm / 2 ^ col % 2 ^ sz p = hx at *
      generalize okL kd sz mm d (p + 1) (col + sz p) = ok
      cases is
      · rw [if_pos rfl]; simp
      · rw [if_neg (by decide)]
        have : kd p = 0 ∨ kd p = 1 ∨ kd p = 2 := by omega
        rcases this with z | z | z
        · simp only [z, show (0 = 2) = False from by simp, show (0 = 1) = False from by simp, if_false, if_true, decide_false, decide_true, Bool.false_or, Bool.true_and, Bool.false_and, Bool.or_false]
          by_cases w : hx = 2 ^ sz p - 1
          · rw [if_pos w, decide_eq_true w]; rfl
          · rw [if_neg w, decide_eq_false w]; rfl
        · simp only [z, show (1 = 2) = False from by simp, show (1 = 0) = False from by simp, if_false, if_true, decide_false, decide_true, Bool.false_or, Bool.true_and, Bool.false_and]
          by_cases w : hx &&& (hx + 1) = 0
          · rw [if_pos w, decide_eq_true w]; rfl
          · rw [if_neg w, decide_eq_false w]; rfl
        · simp only [z, if_true, decide_true, Bool.true_or, Bool.true_and]
theorem xI_dec (m : Nat) : xI (m + 1) + (-1) = xI m := by
  rw [← xI_add1, Int32.add_assoc]
  show xI m + 0 = xI m
  rw [Int32.add_zero]
/-- how many of f's values are at least b: f falls -/
theorem p_spr14 {r np ng ns : Nat} {fs kd sz : Nat → Nat} (hng : ng ≤ 8) (hnp : np ≤ 8) (hns : ns ≤ 32) (hsp : SPr fs ns ng kd sz np) : ∀ (b fu cnt : Nat) (m : x_m), b ≤ 2 ^ ng → b < fu → m.1 r 6 = xI np → (∀ i, i < np → m.2.1 (r + 5) i = xI (kd i) ∧ m.2.1 (r + 6) i = xI (sz i) ∧ kd i ≤ 2 ∧ sz i ≤ 8) → m.1 r 9 = xI cnt → cnt ≤ ns → (∀ j, j < cnt → b ≤ fs j ∧ m.2.1 (r + 7) j = xI (fs j)) → (∀ j, cnt ≤ j → j < ns → fs j < b) →
    ∃ m', B_MD_spread_14 r fu (xI b + (-1)) m = some m' ∧ m'.1 r 9 = xI ns ∧ (∀ j, j < ns → m'.2.1 (r + 7) j = xI (fs j)) ∧ (∀ x y, ¬ (x = r ∧ y = 9) → m'.1 x y = m.1 x y) ∧ (∀ x, x ≠ r + 7 → m'.2.1 x = m.2.1 x) ∧ m'.2.2 = m.2.2 := by
  obtain ⟨s1, s2, s3, s4⟩ := hsp
  have p8 : 2 ^ ng ≤ 2 ^ 8 := Nat.pow_le_pow_right (by omega) hng
  intro b
  induction b with
  | zero =>
    intro fu cnt m _ hfu h6 hp h9 hc hj hr
    cases fu with
    | zero => omega
    | succ fu =>
      rw [B_MD_spread_14, if_pos (by decide)]
      have : cnt = ns := by
        rcases Nat.lt_or_ge cnt ns with z | z
        · have := hr cnt (Nat.le_refl _) z; omega
        · omega
      subst this
      exact ⟨m, rfl, h9, fun j hjj => (hj j hjj).2, fun _ _ _ => rfl, fun _ _ => rfl, rfl⟩
  | succ b ih =>
    intro fu cnt m hb hfu h6 hp h9 hc hj hr
    cases fu with
    | zero => omega
    | succ fu =>
      rw [xI_dec, B_MD_spread_14, if_neg (xI_not_neg (by omega))]
      have := p_spr26 (m := m) (r := r) (np := np) (mm := b) (B_MD_spread_14 r fu) (by omega) h6 hnp hp np 0 0 x_fu true (by omega) (by omega) (by unfold x_fu; omega)
      rw [show bI true = 1 from rfl, show xI 0 = 0 from rfl, Bool.true_and] at this
      rw [this]
      unfold B_MD_spread_167
      by_cases ok : okL kd sz b np 0 0 = true
      · obtain ⟨j, j1, j2⟩ := (s3 b (by omega)).mp ok
        have hjc : j = cnt := by
          rcases Nat.lt_trichotomy j cnt with z | z | z
          · have := (hj j z).1; omega
          · exact z
          · have h1 := hr cnt (Nat.le_refl _) (by omega)
            have h2 := s2 cnt j z j1
            omega
        subst hjc
        rw [if_pos ok, h9, xI_ix (by omega), if_pos (show decide (j < 32) = true by simp; omega), xI_cl (by omega), xI_add1]
        have r1 : ∀ x y, (x_wS (x_wA m (r + 7) j (xI b)) r 9 (xI (j + 1))).1 x y = if x = r ∧ y = 9 then xI (j + 1) else m.1 x y := fun x y => rfl
        have r2 : ∀ x y, (x_wS (x_wA m (r + 7) j (xI b)) r 9 (xI (j + 1))).2.1 x y = if x = r + 7 ∧ y = j then xI b else m.2.1 x y := fun x y => rfl
        obtain ⟨m', v1, v2, v3, v4, v5, v6⟩ := ih fu (j + 1) (x_wS (x_wA m (r + 7) j (xI b)) r 9 (xI (j + 1))) (by omega) (by omega) (by rw [r1, if_neg (by omega)]; exact h6) (fun i hi => by rw [r2, r2, if_neg (by omega), if_neg (by omega)]; exact hp i hi) (by rw [r1, if_pos ⟨rfl, rfl⟩]) (by omega) (fun i hi => by
          rw [r2]
          by_cases ei : i = j
          · subst ei; rw [if_pos ⟨rfl, rfl⟩]; exact ⟨by omega, by rw [j2]⟩
          · rw [if_neg (fun z => ei z.2)]; exact ⟨by have := (hj i (by omega)).1; omega, (hj i (by omega)).2⟩) (fun i h1 h2 => by
          have := s2 j i (by omega) h2; omega)
        refine ⟨m', v1, v2, v3, fun x y h => (v4 x y h).trans (by rw [r1, if_neg h]), fun x h => (v5 x h).trans ?_, v6⟩
        funext y
        rw [r2, if_neg (fun z => h z.1)]
      · rw [if_neg ok]
        have nb : ∀ j, j < ns → fs j ≠ b := fun j hj' e => ok ((s3 b (by omega)).mpr ⟨j, hj', e⟩)
        exact ih fu cnt m (by omega) (by omega) h6 hp h9 hc (fun i hi => ⟨by have := (hj i hi).1; omega, (hj i hi).2⟩) (fun i h1 h2 => by have := hr i h1 h2; have := nb i h2; omega)
theorem F_MD_spread_eq {r np ng ns : Nat} {fs kd sz : Nat → Nat} {m : x_m} (hng : ng ≤ 8) (hnp : np ≤ 8) (hns : ns ≤ 32) (hsp : SPr fs ns ng kd sz np) (h4 : m.1 r 4 = xI ng) (h6 : m.1 r 6 = xI np) (hp : ∀ i, i < np → m.2.1 (r + 5) i = xI (kd i) ∧ m.2.1 (r + 6) i = xI (sz i) ∧ kd i ≤ 2 ∧ sz i ≤ 8) :
    ∃ m', F_MD_spread r m = some m' ∧ m'.1 r 9 = xI ns ∧ (∀ j, j < ns → m'.2.1 (r + 7) j = xI (fs j)) ∧ (∀ x y, ¬ (x = r ∧ y = 9) → m'.1 x y = m.1 x y) ∧ (∀ x, x ≠ r + 7 → m'.2.1 x = m.2.1 x) ∧ m'.2.2 = m.2.2 := by
  have r1 : ∀ x y, (x_wS m r 9 0).1 x y = if x = r ∧ y = 9 then 0 else m.1 x y := fun x y => rfl
  unfold F_MD_spread
  have p8 : 2 ^ ng ≤ 2 ^ 8 := Nat.pow_le_pow_right (by omega) hng
  rw [r1, if_neg (by omega), h4, shl_tab _ (by omega), Int32.sub_eq_add_neg]
  obtain ⟨m', v1, v2, v3, v4, v5, v6⟩ := p_spr14 (r := r) hng hnp hns hsp (2 ^ ng) x_fu 0 (x_wS m r 9 0) (Nat.le_refl _) (by unfold x_fu; omega) (by rw [r1, if_neg (by omega)]; exact h6) hp (by rw [r1, if_pos ⟨rfl, rfl⟩]; rfl) (by omega) (fun j h => by omega) (fun j _ h => hsp.1 j h)
  exact ⟨m', v1, v2, v3, fun x y h => (v4 x y h).trans (by rw [r1, if_neg h]), fun x h => v5 x h, v6⟩
/-! items that need a group column -/
def ug (M : x_m) (q ng i : Nat) : Bool := (decide (M.2.1 (q + 1) i = 0) || decide (M.2.1 (q + 1) i = 5)) && !(mem8 (M.2.1 (q + 4)) (M.2.1 (q + 2) i) ng 0)
def fug (M : x_m) (q ng : Nat) : Nat → Nat → Option Nat
  | 0, _ => none
  | d + 1, i => if ug M q ng i = true then some i else fug M q ng d (i + 1)
theorem fug_lt (M : x_m) (q ng : Nat) : ∀ d i j, fug M q ng d i = some j → j < i + d
  | 0, _, _, h => absurd h (by simp [fug])
  | d + 1, i, j, h => by
    rw [fug] at h
    by_cases u : ug M q ng i = true
    · rw [if_pos u] at h; injection h with h; omega
    · rw [if_neg u] at h
      have := fug_lt M q ng d (i + 1) j h; omega
theorem p_fu {M : x_m} {q ni ng : Nat} (h0 : M.1 q 0 = xI ni) (hn : ni ≤ 24) (h4 : M.1 q 4 = xI ng) (hg : ng ≤ 8) : ∀ (d i f : Nat), i + d = ni → d < f → B_QU_firstUngrouped_2 q f (xI i) M = some (match fug M q ng d i with | none => -1 | some j => M.2.1 (q + 3) j, M) := by
  intro d
  induction d with
  | zero =>
    intro i f hi hf
    cases f with
    | zero => omega
    | succ f =>
      rw [B_QU_firstUngrouped_2, h0, if_pos (by rw [xI_le (by omega) (by omega)]; omega)]
      rfl
  | succ d ih =>
    intro i f hi hf
    cases f with
    | zero => omega
    | succ f =>
      rw [B_QU_firstUngrouped_2, h0, if_neg (by rw [xI_le (by omega) (by omega)]; omega), xI_ix (by omega), xI_cl (by omega)]
      simp only [show (decide (i < 24) = true) = True from by simp; omega, if_true]
      unfold B_QU_firstUngrouped_29 B_QU_firstUngrouped_34 B_QU_firstUngrouped_59
      rw [xI_add1, ih (i + 1) f (by omega) (by omega), if_neg (show ¬ (1 : Int32) = 0 by decide), if_pos (show (0 : Int32) = 0 from rfl), xI_ix (by omega), xI_cl (by omega), if_pos (show decide (i < 24) = true by simp; omega), F_QU_hasColumn_eq _ h4 hg, Option.bind_some, fug]
      unfold ug
      simp only [bI_0, show (decide (i < 24) = true) = True from by simp; omega, if_true]
      by_cases t0 : M.2.1 (q + 1) i = 0
      · simp only [t0, if_true, decide_true, Bool.true_or, Bool.true_and]
        cases mem8 (M.2.1 (q + 4)) (M.2.1 (q + 2) i) ng 0 with
        | false => rfl
        | true => exact ih (i + 1) f (by omega) (by omega)
      · rw [if_neg t0, decide_eq_false t0, Bool.false_or]
        by_cases t5 : M.2.1 (q + 1) i = 5
        · simp only [t5, if_true, decide_true, Bool.true_and]
          cases mem8 (M.2.1 (q + 4)) (M.2.1 (q + 2) i) ng 0 with
          | false => rfl
          | true => exact ih (i + 1) f (by omega) (by omega)
        · rw [if_neg t5, decide_eq_false t5, Bool.false_and, if_neg (by decide)]
