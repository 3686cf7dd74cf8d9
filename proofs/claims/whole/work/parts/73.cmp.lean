/-! frames of conditions -/
def pW (q a _b : Nat) : Prop := a = 3 ∨ (q + 6 ≤ a ∧ a < q + 136)
def qW (q a : Nat) : Prop := q + 8 ≤ a ∧ a < q + 136
def pWr (r a b : Nat) : Prop := (a = 387 ∧ ((5 ≤ b ∧ b ≤ 12) ∨ b = 24)) ∨ (a = r ∧ (b = 11 ∨ b = 13))
def qWr (r a : Nat) : Prop := r + 8 ≤ a ∧ a < r + 14
theorem upw {q : Nat} {m m' : x_m} (h : fr pC q0 m m') : fr (pW q) (qW q) m m' := fr_mono h (fun _ _ z => Or.inl z) (fun _ z => z.elim)
theorem upwr {r : Nat} {m m' : x_m} (h : fr pR q0 m m') : fr (pWr r) (qWr r) m m' := fr_mono h (fun _ _ z => Or.inl ⟨z.1, Or.inl z.2⟩) (fun _ z => z.elim)
theorem upWQ {q : Nat} {m m' : x_m} (h : fr (pW q) (qW q) m m') : fr (pQ q) (qQ q) m m' := fr_mono h (fun a b z => by unfold pW at z; unfold pQ; omega) (fun a z => by unfold qW at z; unfold qQ; omega)
theorem upWQr {r : Nat} {m m' : x_m} (h : fr (pWr r) (qWr r) m m') : fr (pQr r) (qQr r) m m' := fr_mono h (fun a b z => by unfold pWr at z; unfold pQr; omega) (fun a z => by unfold qWr at z; unfold qQr; omega)
theorem ZW_fr {M R M' R' : x_m} {n D Ms q r : Nat} (h : ZQ M R n D Ms q r) (f : fr (pW q) (qW q) M M') (g : fr (pWr r) (qWr r) R R') (h5 : Fz M' R') : ZQ M' R' n D Ms q r := ZQ_fr h (upWQ f) (upWQr g) h5
/-! comparisons: what they say -/
def mem8 (f : Nat → Int32) (v : Int32) : Nat → Nat → Bool
  | 0, _ => false
  | k + 1, i => if f i = v then true else mem8 f v k (i + 1)
theorem mem8_congr {f g : Nat → Int32} (v : Int32) : ∀ k i, (∀ j, i ≤ j → j < i + k → f j = g j) → mem8 f v k i = mem8 g v k i
  | 0, _, _ => rfl
  | k + 1, i, h => by
    rw [mem8, mem8, h i (Nat.le_refl i) (by omega), mem8_congr v k (i + 1) (fun j a b => h j (by omega) (by omega))]
def accB (M : x_m) (cp : Nat) (v : Int32) : Bool := (if M.1 cp 4 = 0 then decide (M.1 cp 2 ≤ v) && decide (v ≤ M.1 cp 3) else mem8 (M.2.1 (cp + 1)) v (M.1 cp 4).toNatClampNeg 0) != decide (M.1 cp 1 = 1)
def cmpB (R : x_m) (r n : Nat) (v : Int32) : Bool :=
  if R.2.1 (r + 10) n = 0 then decide (v = R.2.1 (r + 11) n) else if R.2.1 (r + 10) n = 1 then !decide (v = R.2.1 (r + 11) n) else if R.2.1 (r + 10) n = 2 then decide (v < R.2.1 (r + 11) n) else if R.2.1 (r + 10) n = 3 then decide (v ≤ R.2.1 (r + 11) n) else if R.2.1 (r + 10) n = 4 then decide (R.2.1 (r + 11) n < v) else if R.2.1 (r + 10) n = 5 then decide (R.2.1 (r + 11) n ≤ v) else if R.2.1 (r + 10) n = 6 then decide (R.2.1 (r + 11) n ≤ v) && decide (v ≤ R.2.1 (r + 12) n) else mem8 (fun k => R.2.1 (r + 13) (40 * n + k)) v (R.2.1 (r + 11) n).toNatClampNeg 0 == decide (R.2.1 (r + 10) n = 7)
/-- the n-th comparison is the same on both sides -/
def CmpR (M R : x_m) (q r D n : Nat) : Prop := ∃ col, col < 32 ∧ col / 4 < D ∧ (∃ L, M.1 (9 + 13 * (col / 4)) 0 = xI L ∧ L ≤ 4 ∧ col % 4 < L) ∧ M.1 (q + 16 + 2 * n) 0 = xI col ∧ R.2.1 (r + 9) n = xI col ∧ (∃ c, c ≤ 40 ∧ M.1 (q + 16 + 2 * n) 4 = xI c) ∧ (M.1 (q + 16 + 2 * n) 1 = 0 ∨ M.1 (q + 16 + 2 * n) 1 = 1) ∧ (∃ h, h ≤ 8 ∧ R.2.1 (r + 10) n = xI h ∧ (7 ≤ h → ∃ c, c ≤ 40 ∧ R.2.1 (r + 11) n = xI c)) ∧ ∀ v, accB M (q + 16 + 2 * n) v = cmpB R r n v
/-- the reference's n-th comparison alone may have changed -/
def kpN (R R' : x_m) (r n : Nat) : Prop := (∀ a j, r + 9 ≤ a → a ≤ r + 12 → j ≠ n → R'.2.1 a j = R.2.1 a j) ∧ (∀ j, (j < 40 * n ∨ 40 * n + 40 ≤ j) → R'.2.1 (r + 13) j = R.2.1 (r + 13) j)
theorem kpN_trans {R R' R'' : x_m} {r n : Nat} (h : kpN R R' r n) (h' : kpN R' R'' r n) : kpN R R'' r n := ⟨fun a j x y z => (h'.1 a j x y z).trans (h.1 a j x y z), fun j x => (h'.2 j x).trans (h.2 j x)⟩
theorem kpN_fr {R R' : x_m} {r n : Nat} (h : fr pR q0 R R') : kpN R R' r n := ⟨fun a j _ _ _ => congrFun (h.2.1 _ id) j, fun j _ => congrFun (h.2.1 _ id) j⟩
theorem kpN_wA (R : x_m) {r n a j : Nat} (v : Int32) (h : (r + 9 ≤ a ∧ a ≤ r + 12 ∧ j = n) ∨ (a = r + 13 ∧ 40 * n ≤ j ∧ j < 40 * n + 40)) : kpN R (x_wA R a j v) r n := by
  refine ⟨fun a' j' x y z => ?_, fun j' x => ?_⟩
  · show (if a' = a ∧ j' = j then _ else _) = _
    rw [if_neg (by omega)]
  · show (if r + 13 = a ∧ j' = j then _ else _) = _
    rw [if_neg (by omega)]
theorem kpN_same {R R' : x_m} {r n : Nat} (h : R'.2.1 = R.2.1) : kpN R R' r n := ⟨fun a j _ _ _ => by rw [h], fun j _ => by rw [h]⟩
/-- frames of a comparison -/
def pP (cp a _b : Nat) : Prop := a = 3 ∨ a = cp
def qP (cp a : Nat) : Prop := a = cp + 1
def qPr (r a : Nat) : Prop := r + 9 ≤ a ∧ a ≤ r + 13
theorem upCP {cp : Nat} {m m' : x_m} (h : fr pC q0 m m') : fr (pP cp) (qP cp) m m' := fr_mono h (fun _ _ z => Or.inl z) (fun _ z => z.elim)
theorem upRP {r : Nat} {m m' : x_m} (h : fr pR q0 m m') : fr pR (qPr r) m m' := fr_mono h (fun _ _ z => z) (fun _ z => z.elim)
theorem upPQ {q n : Nat} {m m' : x_m} (hn : n < 60) (h : fr (pP (q + 16 + 2 * n)) (qP (q + 16 + 2 * n)) m m') : fr (pW q) (qW q) m m' := fr_mono h (fun a b z => by unfold pP at z; unfold pW; omega) (fun a z => by unfold qP at z; unfold qW; omega)
theorem upPQr {r : Nat} {m m' : x_m} (h : fr pR (qPr r) m m') : fr (pWr r) (qWr r) m m' := fr_mono h (fun a b z => by unfold pR at z; unfold pWr; omega) (fun a z => by unfold qPr at z; unfold qWr; omega)
theorem CmpR_keep {M R M' R' : x_m} {q r D n i : Nat} (h : CmpR M R q r D i) (hi : i ≠ n) (hq : q = 115 ∨ q = 251) (hi60 : i < 60) (hD : D ≤ 8) (f : ∀ b, M'.1 (q + 16 + 2 * i) b = M.1 (q + 16 + 2 * i) b) (f2 : M'.2.1 (q + 16 + 2 * i + 1) = M.2.1 (q + 16 + 2 * i + 1)) (fl : ∀ d, d < 8 → M'.1 (9 + 13 * d) 0 = M.1 (9 + 13 * d) 0) (k : kpN R R' r n) : CmpR M' R' q r D i := by
  obtain ⟨col, a1, a2, ⟨L, a3, a4, a5⟩, b1, b2, b3, b4, b5, b6⟩ := h
  have eR : ∀ a, r + 9 ≤ a → a ≤ r + 12 → R'.2.1 a i = R.2.1 a i := fun a x y => k.1 a i x y hi
  refine ⟨col, a1, a2, ⟨L, by rw [fl _ (by omega)]; exact a3, a4, a5⟩, by rw [f]; exact b1, by rw [eR _ (by omega) (by omega)]; exact b2, by rw [f]; exact b3, by rw [f]; exact b4, by rw [eR _ (by omega) (by omega), eR _ (by omega) (by omega)]; exact b5, fun v => ?_⟩
  have e1 : accB M' (q + 16 + 2 * i) v = accB M (q + 16 + 2 * i) v := by
    unfold accB
    rw [f, f, f, f, f2]
  have e2 : cmpB R' r i v = cmpB R r i v := by
    obtain ⟨h, h8, hh, h7⟩ := b5
    unfold cmpB
    rw [eR _ (by omega) (by omega), eR _ (by omega) (by omega), eR _ (by omega) (by omega)]
    by_cases h7' : 7 ≤ h
    · obtain ⟨c, c40, hc⟩ := h7 h7'
      have : mem8 (fun k => R'.2.1 (r + 13) (40 * i + k)) v (R.2.1 (r + 11) i).toNatClampNeg 0 = mem8 (fun k => R.2.1 (r + 13) (40 * i + k)) v (R.2.1 (r + 11) i).toNatClampNeg 0 := by
        rw [hc, xI_cl (by omega)]
        exact mem8_congr v c 0 (fun j _ y => k.2 _ (by omega))
      rw [this]
    · have hne : R.2.1 (r + 10) i = 0 ∨ R.2.1 (r + 10) i = 1 ∨ R.2.1 (r + 10) i = 2 ∨ R.2.1 (r + 10) i = 3 ∨ R.2.1 (r + 10) i = 4 ∨ R.2.1 (r + 10) i = 5 ∨ R.2.1 (r + 10) i = 6 := by
        rw [hh]
        have : h = 0 ∨ h = 1 ∨ h = 2 ∨ h = 3 ∨ h = 4 ∨ h = 5 ∨ h = 6 := by omega
        rcases this with z | z | z | z | z | z | z <;> subst z <;> simp [xI] <;> decide
      rcases hne with z | z | z | z | z | z | z <;> rw [z] <;> rfl
  rw [e1, e2]
  exact b6 v
/-! relations -/
def rNeg (k : Nat) : Int32 := if k = 12 ∨ k = 13 ∨ k = 15 then 1 else 0
def rLow (k : Nat) (v : Int32) : Int32 := if k = 14 ∨ k = 15 then -2147483648 else v
def rHigh (k : Nat) (v : Int32) : Int32 := if k = 13 ∨ k = 16 then 2147483647 else v
theorem F_CP_becomeRelation_eq {k : Nat} (h1 : 11 ≤ k) (h2 : k ≤ 16) (cp : Nat) (v : Int32) (m : x_m) : F_CP_becomeRelation cp (kRf k) v m = some (x_wS (x_wS (x_wS m cp 1 (rNeg k)) cp 2 (rLow k v)) cp 3 (rHigh k v)) := by
  have hk : k ≤ 36 := by omega
  unfold F_CP_becomeRelation B_CP_becomeRelation_22 B_CP_becomeRelation_27 B_CP_becomeRelation_44 B_CP_becomeRelation_49 B_CP_becomeRelation_64 B_CP_becomeRelation_69 B_CP_becomeRelation_82 B_CP_becomeRelation_97
  simp only [kRf_kv hk, if_true, kRf_is (j := 12) hk (by omega) (by omega), kRf_is (j := 13) hk (by omega) (by omega), kRf_is (j := 14) hk (by omega) (by omega), kRf_is (j := 15) hk (by omega) (by omega), kRf_is (j := 16) hk (by omega) (by omega), show x_b1 1 = true from rfl, show x_b1 0 = true from rfl]
  have : k = 11 ∨ k = 12 ∨ k = 13 ∨ k = 14 ∨ k = 15 ∨ k = 16 := by omega
  unfold rNeg rLow rHigh
  rcases this with z | z | z | z | z | z <;> subst z <;> rfl
theorem i32_le_antisymm (v a : Int32) : (decide (a ≤ v) && decide (v ≤ a)) = decide (v = a) := by
  by_cases h : v = a
  · subst h; simp
  · rw [decide_eq_false h]
    by_cases h1 : a ≤ v
    · have h2 : ¬ v ≤ a := fun z => h (Int32.le_antisymm z h1)
      rw [decide_eq_true h1, decide_eq_false h2]; rfl
    · rw [decide_eq_false h1]; rfl
theorem i32_max (v : Int32) : decide (v ≤ 2147483647) = true := by
  apply decide_eq_true
  rw [Int32.le_iff_toInt_le]
  have := v.toInt_lt
  show v.toInt ≤ 2147483647
  omega
theorem i32_min (v : Int32) : decide (-2147483648 ≤ v) = true := by
  apply decide_eq_true
  rw [Int32.le_iff_toInt_le]
  have := v.le_toInt
  show -2147483648 ≤ v.toInt
  omega
theorem i32_nle (v a : Int32) : decide (v < a) = !decide (a ≤ v) := by
  by_cases h : a ≤ v
  · rw [decide_eq_true h, decide_eq_false (Int32.not_lt.mpr h)]; rfl
  · rw [decide_eq_false h, decide_eq_true (Int32.not_le.mp h)]; rfl
theorem rel_sem {M R : x_m} {cp r n k : Nat} (h1 : 11 ≤ k) (h2 : k ≤ 16) (a v : Int32) (m4 : M.1 cp 4 = 0) (m1 : M.1 cp 1 = rNeg k) (m2 : M.1 cp 2 = rLow k a) (m3 : M.1 cp 3 = rHigh k a) (hh : R.2.1 (r + 10) n = xI (k - 11)) (hf : R.2.1 (r + 11) n = a) : accB M cp v = cmpB R r n v := by
  unfold accB cmpB
  rw [m4, m1, m2, m3, hh, hf, if_pos rfl]
  have : k = 11 ∨ k = 12 ∨ k = 13 ∨ k = 14 ∨ k = 15 ∨ k = 16 := by omega
  rcases this with z | z | z | z | z | z <;> subst z
  · show ((decide (a ≤ v) && decide (v ≤ a)) != false) = decide (v = a)
    rw [i32_le_antisymm]; simp
  · show ((decide (a ≤ v) && decide (v ≤ a)) != true) = !decide (v = a)
    rw [i32_le_antisymm]; simp
  · show ((decide (a ≤ v) && decide (v ≤ 2147483647)) != true) = decide (v < a)
    rw [i32_max, i32_nle]; simp
  · show ((decide (-2147483648 ≤ v) && decide (v ≤ a)) != false) = decide (v ≤ a)
    rw [i32_min]; simp
  · show ((decide (-2147483648 ≤ v) && decide (v ≤ a)) != true) = decide (a < v)
    rw [i32_min, i32_nle]; simp
  · show ((decide (a ≤ v) && decide (v ≤ 2147483647)) != false) = decide (a ≤ v)
    rw [i32_max]; simp
