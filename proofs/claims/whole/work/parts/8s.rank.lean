/-! find and rank -/
theorem mem8_iff (f : Nat → Int32) (v : Int32) : ∀ k i, mem8 f v k i = true ↔ ∃ j, i ≤ j ∧ j < i + k ∧ f j = v
  | 0, i => ⟨fun z => by simp [mem8] at z, fun ⟨j, a, b, _⟩ => by omega⟩
  | k + 1, i => by
    rw [mem8]
    by_cases h : f i = v
    · rw [if_pos h]
      exact ⟨fun _ => ⟨i, Nat.le_refl _, by omega, h⟩, fun _ => rfl⟩
    · rw [if_neg h, mem8_iff f v k (i + 1)]
      refine ⟨fun ⟨j, a, b, c⟩ => ⟨j, by omega, by omega, c⟩, fun ⟨j, a, b, c⟩ => ⟨j, ?_, by omega, c⟩⟩
      rcases Nat.lt_or_ge i j with z | z
      · omega
      · have : j = i := by omega
        subst this
        exact absurd c h
def cnf (P : Nat → Bool) : Nat → Nat → Nat
  | 0, _ => 0
  | w + 1, i => (if P i = true then 1 else 0) + cnf P w (i + 1)
theorem cnf_congr {P Q : Nat → Bool} : ∀ w i, (∀ j, i ≤ j → j < i + w → P j = Q j) → cnf P w i = cnf Q w i
  | 0, _, _ => rfl
  | w + 1, i, h => by
    rw [cnf, cnf, h i (Nat.le_refl _) (by omega), cnf_congr w (i + 1) (fun j a b => h j (by omega) (by omega))]
theorem cnf_add {P Q S : Nat → Bool} : ∀ w i, (∀ j, i ≤ j → j < i + w → (S j = (P j || Q j)) ∧ ¬ (P j = true ∧ Q j = true)) → cnf S w i = cnf P w i + cnf Q w i
  | 0, _, _ => rfl
  | w + 1, i, h => by
    rw [cnf, cnf, cnf, cnf_add (P := P) (Q := Q) w (i + 1) (fun j a b => h j (by omega) (by omega))]
    obtain ⟨h1, h2⟩ := h i (Nat.le_refl _) (by omega)
    rw [h1]
    cases hp : P i <;> cases hq : Q i
    · simp
    · simp; omega
    · simp; omega
    · exact absurd ⟨hp, hq⟩ h2
theorem cnf_0 {P : Nat → Bool} : ∀ w i, (∀ j, i ≤ j → j < i + w → P j = false) → cnf P w i = 0
  | 0, _, _ => rfl
  | w + 1, i, h => by
    rw [cnf, h i (Nat.le_refl _) (by omega), cnf_0 w (i + 1) (fun j a b => h j (by omega) (by omega))]; rfl
theorem cnf_le (P : Nat → Bool) : ∀ w i, cnf P w i ≤ w
  | 0, _ => Nat.le_refl _
  | w + 1, i => by
    have := cnf_le P w (i + 1)
    rw [cnf]
    split <;> omega
theorem cnf_split (P : Nat → Bool) : ∀ w1 w2 i, cnf P (w1 + w2) i = cnf P w1 i + cnf P w2 (i + w1)
  | 0, w2, i => by rw [Nat.zero_add, cnf, Nat.zero_add, Nat.add_zero]
  | w1 + 1, w2, i => by
    rw [show w1 + 1 + w2 = (w1 + w2) + 1 by omega, cnf, cnf, cnf_split P w1 w2 (i + 1), show i + 1 + w1 = i + (w1 + 1) by omega]; omega
/-- the first of its value -/
def frs (V : Nat → Int32) (i : Nat) : Bool := !(mem8 V (V i) i 0)
theorem least {P : Nat → Prop} (hd : ∀ i, P i ∨ ¬ P i) : ∀ i, P i → ∃ j, j ≤ i ∧ P j ∧ ∀ x, x < j → ¬ P x := by
  intro i
  induction i using Nat.strongRecOn with
  | _ i ih =>
    intro h
    by_cases ex : ∃ x, x < i ∧ P x
    · obtain ⟨x, x1, x2⟩ := ex
      obtain ⟨j, j1, j2⟩ := ih x x1 x2
      exact ⟨j, by omega, j2⟩
    · exact ⟨i, Nat.le_refl _, h, fun x hx hp => ex ⟨x, hx, hp⟩⟩
theorem cnf_one {V : Nat → Int32} {c : Nat} {x : Int32} (h : ∃ i, i < c ∧ V i = x) : cnf (fun i => frs V i && decide (V i = x)) c 0 = 1 := by
  obtain ⟨i, i1, i2⟩ := h
  obtain ⟨j, j1, j2, j3⟩ := least (P := fun i => V i = x) (fun i => Classical.em _) i i2
  rw [show c = j + (1 + (c - j - 1)) by omega, cnf_split, cnf_split]
  rw [cnf_0 j 0 (fun y _ b => by
    have := j3 y (by omega)
    show (frs V y && decide (V y = x)) = false
    rw [decide_eq_false this, Bool.and_false])]
  rw [cnf_0 (c - j - 1) (0 + j + 1) (fun y a b => by
    show (frs V y && decide (V y = x)) = false
    by_cases e : V y = x
    · have : frs V y = false := by
        unfold frs
        rw [(mem8_iff V (V y) y 0).mpr ⟨j, by omega, by omega, by rw [e]; exact j2⟩]; rfl
      rw [this, Bool.false_and]
    · rw [decide_eq_false e, Bool.and_false])]
  have fj : frs V j = true := by
    unfold frs
    cases hm : mem8 V (V j) j 0 with
    | false => rfl
    | true =>
      obtain ⟨y, y1, y2, y3⟩ := (mem8_iff V (V j) j 0).mp hm
      have j2' : V j = x := j2
      exact absurd (y3.trans j2') (j3 y (by omega))
  have j2' : V j = x := j2
  show 0 + (cnf (fun i => frs V i && decide (V i = x)) 1 (0 + j) + 0) = 1
  rw [Nat.zero_add j]
  show 0 + (((if (frs V j && decide (V j = x)) = true then 1 else 0) + 0) + 0) = 1
  rw [fj, decide_eq_true j2']; rfl
theorem cnf_srt {V S : Nat → Int32} {c k : Nat} (hs : ∀ i j, i < j → j < k → S i < S j) (hset : ∀ v, (∃ i, i < k ∧ S i = v) ↔ ∃ i, i < c ∧ V i = v) : ∀ t, t ≤ k → cnf (fun i => frs V i && mem8 S (V i) t 0) c 0 = t := by
  intro t
  induction t with
  | zero =>
    intro _
    exact cnf_0 c 0 (fun j _ _ => by show (frs V j && false) = false; rw [Bool.and_false])
  | succ t ih =>
    intro ht
    have one := cnf_one (V := V) (c := c) (x := S t) ((hset (S t)).mp ⟨t, by omega, rfl⟩)
    rw [cnf_add (P := fun i => frs V i && mem8 S (V i) t 0) (Q := fun i => frs V i && decide (V i = S t)) c 0 (fun j _ _ => ?_), ih (by omega), one]
    have e : mem8 S (V j) (t + 1) 0 = (mem8 S (V j) t 0 || decide (V j = S t)) := by
      rw [Bool.eq_iff_iff, mem8_iff, Bool.or_eq_true, mem8_iff]
      refine ⟨fun ⟨y, y1, y2, y3⟩ => ?_, fun z => ?_⟩
      · by_cases ey : y = t
        · right; rw [decide_eq_true_iff, ← ey]; exact y3.symm
        · left; exact ⟨y, y1, by omega, y3⟩
      · rcases z with ⟨y, y1, y2, y3⟩ | z
        · exact ⟨y, y1, by omega, y3⟩
        · rw [decide_eq_true_iff] at z
          exact ⟨t, by omega, by omega, z.symm⟩
    refine ⟨?_, fun ⟨z1, z2⟩ => ?_⟩
    · show (frs V j && mem8 S (V j) (t + 1) 0) = ((frs V j && mem8 S (V j) t 0) || (frs V j && decide (V j = S t)))
      rw [e]
      cases frs V j <;> simp
    · have z1' : (frs V j && mem8 S (V j) t 0) = true := z1
      have z2' : (frs V j && decide (V j = S t)) = true := z2
      rw [Bool.and_eq_true] at z1' z2'
      obtain ⟨y, y1, y2, y3⟩ := (mem8_iff _ _ _ _).mp z1'.2
      have := of_decide_eq_true z2'.2
      rw [this] at y3
      have lt := hs y t (by omega) (by omega)
      rw [y3] at lt
      exact absurd lt (Int32.lt_irrefl)
def vl (m : x_m) (d l : Nat) (i : Nat) : Int32 := m.2.1 391 (4000 * d + 4 * i + l)
/-- what rank counts -/
def rkc (m : x_m) (d l : Nat) (p : Int32) (i : Nat) : Bool := decide (p < 0) || decide (vl m d l i < vl m d l p.toNatClampNeg)
theorem p_101 (K : Int32 → Int32 → Int32 → Int32 → Int32 → x_m → Option (Int32 × x_m)) {m : x_m} {d l i cnt : Nat} {p : Int32} (hd : d < 8) (hl : l < 4) (hi : i < 1000) (hp : p < 0 ∨ ∃ p', p' < 1000 ∧ p = xI p') : ∀ (w j f : Nat) (b : Bool), j + w = i → w < f → B_MD_rank_101 K f (xI d) (xI l) p (xI cnt) (xI i) (bI b) (xI j) m = K (xI d) (xI l) p (xI (cnt + (if ((b && !mem8 (vl m d l) (vl m d l i) w j) && rkc m d l p i) = true then 1 else 0))) (xI (i + 1)) m := by
  intro w
  induction w with
  | zero =>
    intro j f b hj hf
    cases f with
    | zero => omega
    | succ f =>
      have e2 : rkc m d l p i = (decide (p < 0) || decide (vl m d l i < vl m d l p.toNatClampNeg)) := rfl
      rw [B_MD_rank_101, if_pos (by rw [xI_le (by omega) (by omega)]; omega)]
      unfold B_MD_rank_178 B_MD_rank_174 B_MD_rank_179
      simp only [bI_0]
      rw [xI_add1, xI_add1, mem8]
      cases b
      · rw [if_pos rfl]
        simp only [Bool.false_and, show (false = true) = False from by simp, if_false]
        rw [Int32.add_zero]; rfl
      · rw [if_neg (by decide)]
        simp only [Bool.not_false, Bool.true_and]
        rw [e2]
        rcases hp with hp | ⟨p', p1, p2⟩
        · rw [if_pos hp, decide_eq_true hp, Bool.true_or, if_pos rfl]
        · subst p2
          rw [if_neg (xI_not_neg (by omega)), decide_eq_false (xI_not_neg (by omega)), Bool.false_or, valOf hd hl hi, Option.bind_some, valOf hd hl p1, Option.bind_some, xI_cl (by omega)]
          show (if vl m d l p' ≤ vl m d l i then _ else _) = _
          by_cases le : vl m d l p' ≤ vl m d l i
          · rw [if_pos le, decide_eq_false (Int32.not_lt.mpr le), Int32.add_zero]; rfl
          · rw [if_neg le, decide_eq_true (Int32.not_le.mp le)]; rfl
  | succ w ih =>
    intro j f b hj hf
    cases f with
    | zero => omega
    | succ f =>
      rw [B_MD_rank_101, if_neg (by rw [xI_le (by omega) (by omega)]; omega)]
      unfold B_MD_rank_136 B_MD_rank_137
      have i1 := ih (j + 1) f true (by omega) (by omega)
      have i0 := ih (j + 1) f false (by omega) (by omega)
      rw [show bI true = 1 from rfl] at i1
      rw [show bI false = 0 from rfl] at i0
      rw [xI_add1, valOf hd hl (by omega), Option.bind_some, valOf hd hl hi, Option.bind_some, i1, i0, mem8]
      simp only [bI_0]
      cases b
      · rw [if_pos rfl]; rfl
      · rw [if_neg (by decide)]
        show (if vl m d l j = vl m d l i then _ else _) = _
        by_cases e : vl m d l j = vl m d l i
        · rw [if_pos e, if_pos e]; rfl
        · rw [if_neg e, if_neg e]
theorem p_84 {m : x_m} {d l c : Nat} {p : Int32} (hd : d < 8) (hl : l < 4) (hc : c ≤ 1000) (h390 : m.2.1 390 d = xI c) (hp : p < 0 ∨ ∃ p', p' < 1000 ∧ p = xI p') : ∀ (w i f cnt : Nat), i + w = c → w < f → B_MD_rank_84 f (xI d) (xI l) p (xI cnt) (xI i) m = some (xI (cnt + cnf (fun i => frs (vl m d l) i && rkc m d l p i) w i), m) := by
  intro w
  induction w with
  | zero =>
    intro i f cnt hi hf
    cases f with
    | zero => omega
    | succ f =>
      rw [B_MD_rank_84, xI_ix (by omega), if_pos (show decide (d < 8) = true by simp; omega), xI_cl (by omega), h390, if_pos (by rw [xI_le (by omega) (by omega)]; omega)]
      rfl
  | succ w ih =>
    intro i f cnt hi hf
    cases f with
    | zero => omega
    | succ f =>
      rw [B_MD_rank_84, xI_ix (by omega), if_pos (show decide (d < 8) = true by simp; omega), xI_cl (by omega), h390, if_neg (by rw [xI_le (by omega) (by omega)]; omega)]
      have := p_101 (B_MD_rank_84 f) (m := m) (cnt := cnt) hd hl (show i < 1000 by omega) hp i 0 x_fu true (by omega) (by unfold x_fu; omega)
      rw [show bI true = 1 from rfl, show xI 0 = 0 from rfl] at this
      rw [this, ih (i + 1) f _ (by omega) (by omega), cnf]
      simp only [Bool.true_and]
      unfold frs
      rw [Nat.add_assoc]
theorem p_find {m : x_m} {d c : Nat} (v : Int32) (hd : d < 8) (hc : c ≤ 1000) (h390 : m.2.1 390 d = xI c) : ∀ (w i f : Nat), i + w = c → w < f → ((∀ j, i ≤ j → j < c → vl m d 0 j ≠ v) → B_MD_find_42 f (xI d) v (xI i) m = some (-1, m)) ∧ (∀ t, i ≤ t → t < c → vl m d 0 t = v → (∀ j, i ≤ j → j < t → vl m d 0 j ≠ v) → B_MD_find_42 f (xI d) v (xI i) m = some (xI t, m)) := by
  intro w
  induction w with
  | zero =>
    intro i f hi hf
    cases f with
    | zero => omega
    | succ f =>
      refine ⟨fun _ => ?_, fun t x y => by omega⟩
      rw [B_MD_find_42, xI_ix (by omega), if_pos (show decide (d < 8) = true by simp; omega), xI_cl (by omega), h390, if_pos (by rw [xI_le (by omega) (by omega)]; omega)]
  | succ w ih =>
    intro i f hi hf
    cases f with
    | zero => omega
    | succ f =>
      obtain ⟨i1, i2⟩ := ih (i + 1) f (by omega) (by omega)
      have e : B_MD_find_42 (f + 1) (xI d) v (xI i) m = if vl m d 0 i = v then some (xI i, m) else B_MD_find_42 f (xI d) v (xI (i + 1)) m := by
        rw [B_MD_find_42, xI_ix (by omega), if_pos (show decide (d < 8) = true by simp; omega), xI_cl (by omega), h390, if_neg (by rw [xI_le (by omega) (by omega)]; omega), show (0 : Int32) = xI 0 from rfl, valOf hd (by omega) (by omega), Option.bind_some, xI_add1]
        rfl
      rw [e]
      refine ⟨fun z => ?_, fun t x y z u => ?_⟩
      · rw [if_neg (z i (Nat.le_refl _) (by omega))]
        exact i1 (fun j a b => z j (by omega) b)
      · by_cases c1 : t = i
        · subst c1; rw [if_pos z]
        · rw [if_neg (u i (Nat.le_refl _) (by omega))]
          exact i2 t (by omega) y z (fun j a b => u j (by omega) b)
theorem Srt_of {M R : x_m} {d c l k : Nat} (h : SrtD M R d c l k) : Srt M (9 + 13 * d) l k (fun v => ∃ i, i < c ∧ R.2.1 391 (4000 * d + 4 * i + l) = v) := by
  unfold SrtD at h
  unfold Srt
  rw [show 9 + 13 * d + 12 = 21 + 13 * d by omega, show 9 + 13 * d + 8 + l = 17 + 13 * d + l by omega]
  exact h
theorem LO_find {M R : x_m} {n : Nat} (h : SR M R n) (a v : Int32) : LO n M R (F_LW_find a v M) (F_MD_find a v R) := by
  have h' := h
  obtain ⟨D, Ms, q, q2, r, r2, hc, a1, a2, a3, a4, a5⟩ := h'
  have bad : LO n M R ((some ((Sum.inr true : Int32 ⊕ Bool), M)).bind fun r => x_w2 r) (some (0, x_wS R 387 1 1)) := LO_x2 true _ rfl rfl h
  have badS : LO n M R ((some ((Sum.inr false : Int32 ⊕ Bool), M)).bind fun r => x_w2 r) (some (0, x_wS R 387 1 2)) := LO_x2 false _ rfl rfl h
  have val : ∀ v : Int32, LO n M R ((some ((Sum.inl v : Int32 ⊕ Bool), M)).bind fun r => x_w2 r) (some (v, x_wS R 387 1 0)) := fun v => LO_v2 (n' := n) v rfl rfl h (FC_refl _) (FR_refl _)
  unfold F_LW_find F_QR_find F_MD_find B_MD_find_27
  simp only [ref_1, show ((1 : Int32) ≤ 0) = False from by decide, show ((2 : Int32) ≤ 0) = False from by decide, show ((0 : Int32) ≤ 0) = True from by decide, if_false, if_true]
  rcases hasD hc a with ⟨d, d1, d8, d2, d3, d4⟩ | ⟨_, d3, d4⟩
  · subst d2
    rw [d3, d4, Option.bind_some, Option.bind_some]
    simp only [show ((1 : Int32) = 0) = False from by decide, if_false]
    by_cases ho : M.1 4 4 = 0
    · rw [if_pos ho, if_pos (New_of hc ho)]
      exact badS
    · obtain ⟨o1, o2, o3⟩ := OpC_of hc ho
      rw [if_neg ho, if_neg (show ¬ R.1 387 2 = 0 by rw [o1]; decide), xI_ix (by omega), if_pos (show decide (d < 8) = true by simp; omega), xI_cl (by omega)]
      obtain ⟨L, c, ρ, K, pk, ⟨e1, e2, e3, e4, e5, e6, e7, e8⟩, f1, f2, f3, f4, f5, f6, f7⟩ := o3 d d1
      have S0 := Srt_of (f4 0 (by omega))
      obtain ⟨t, t1, t2, t3, t4⟩ := low_spec S0 (by omega) v
      obtain ⟨g1, g2⟩ := p_find (m := x_wS R 387 1 0) v d8 e4 e8 c 0 x_fu (by omega) (by unfold x_fu; omega)
      rw [show xI 0 = 0 from rfl] at g1 g2 t2
      have k1 := S0.1
      have cls : F_DM_placeOf (9 + 13 * d) v M = some (if t < K 0 ∧ M.2.1 (9 + 13 * d + 8 + 0) t = v then xI t else -1, M) := by
        unfold F_DM_placeOf B_DM_placeOf_33 B_DM_placeOf_34
        rw [t2, Option.bind_some, if_pos (by decide), show M.2.1 (9 + 13 * d + 12) (0 : Int32).toNatClampNeg = xI (K 0) from S0.2.1]
        simp only [xI_le (a := K 0) (b := t) (by omega) (by omega)]
        by_cases z : K 0 ≤ t
        · rw [if_pos z, if_neg (by omega)]
        · rw [if_neg z, if_pos (by decide), xI_ix (by omega), if_pos (show decide (t < 1000) = true by simp; omega), xI_cl (by omega)]
          show (if M.2.1 (9 + 13 * d + 8 + 0) t = v then _ else _) = _
          by_cases y : M.2.1 (9 + 13 * d + 8 + 0) t = v
          · rw [if_pos y, if_pos ⟨by omega, y⟩]
          · rw [if_neg y, if_neg (fun u => y u.2)]
      rw [cls, Option.bind_some]
      by_cases hin : ∃ i, i < c ∧ R.2.1 391 (4000 * d + 4 * i + 0) = v
      · obtain ⟨u1, u2⟩ := low_in S0 hin t3 t4
        have rise := rise_eq (f := M.2.1 (9 + 13 * d + 8 + 0)) (g := fun i => R.2.1 391 (4000 * d + 4 * i)) (k := K 0) (c := c) S0.2.2.1 f3 S0.2.2.2
        obtain ⟨w1, w2⟩ := (rise t).1 u1
        have at' : vl (x_wS R 387 1 0) d 0 t = v := by
          rw [← u2, w2]; rfl
        rw [if_pos ⟨u1, u2⟩, g2 t (by omega) w1 at' (fun j _ x y => ?_)]
        · exact val _
        · have lt := f3 j t x w1
          have at2 : R.2.1 391 (4000 * d + 4 * t) = v := at'
          have y2 : R.2.1 391 (4000 * d + 4 * j) = v := y
          rw [at2, y2] at lt
          exact Int32.lt_irrefl lt
      · rw [if_neg (fun u => hin ((S0.2.2.2 v).mp ⟨t, u.1, u.2⟩)), g1 (fun j _ x y => hin ⟨j, x, y⟩)]
        exact val _
  · rw [d3, d4, Option.bind_some, Option.bind_some]
    simp only [if_true]
    exact bad
