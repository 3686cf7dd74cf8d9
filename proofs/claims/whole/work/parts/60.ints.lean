/-! ===== THE PURE HALF: ints that are small naturals; the memory ===== -/
def xI (n : Nat) : Int32 := Int32.ofNat n
theorem xI_lit (k : Nat) : (OfNat.ofNat k : Int32) = xI k := rfl
theorem xI_le {a b : Nat} (ha : a < 2147483648) (hb : b < 2147483648) : (xI a ≤ xI b) = (a ≤ b) := propext (Int32.ofNat_le_ofNat ha hb)
theorem xI_lt {a b : Nat} (ha : a < 2147483648) (hb : b < 2147483648) : (xI a < xI b) = (a < b) := by
  apply propext
  rw [← Int32.not_le, show (xI b ≤ xI a) = (b ≤ a) from xI_le hb ha]
  omega
theorem xI_cl {a : Nat} (h : a < 2147483648) : (xI a).toNatClampNeg = a := Int32.toNatClampNeg_ofNat_of_lt h
theorem xI_eq {a b : Nat} (ha : a < 2147483648) (hb : b < 2147483648) : (xI a = xI b) = (a = b) := by
  apply propext
  constructor
  · intro h
    have := congrArg Int32.toNatClampNeg h
    rwa [xI_cl ha, xI_cl hb] at this
  · intro h; rw [h]
theorem xI_add (a b : Nat) : xI a + xI b = xI (a + b) := (Int32.ofNat_add a b).symm
theorem xI_add1 (a : Nat) : xI a + 1 = xI (a + 1) := xI_add a 1
theorem xI_mul (a b : Nat) : xI a * xI b = xI (a * b) := (Int32.ofNat_mul a b).symm
theorem xI_sub {a b : Nat} (h : b ≤ a) : xI a - xI b = xI (a - b) := by
  have e : xI a = xI (a - b) + xI b := by rw [xI_add, Nat.sub_add_cancel h]
  rw [e, Int32.add_sub_cancel]
theorem xI_ix {a N : Nat} (h : a < 2147483648) : x_ix (xI a) N = decide (a < N) := by
  unfold x_ix
  rw [xI_cl h]
  have : ¬ (xI a < 0) := by
    show ¬ (xI a < xI 0)
    rw [xI_lt h (by decide)]; omega
  simp [this]
theorem xI_ge0 {a : Nat} (h : a < 2147483648) : (xI a < 0) = False := by
  show (xI a < xI 0) = False
  rw [xI_lt h (by decide)]; simp
-- memory
theorem xw_S1 {m : x_m} {p k q j : Nat} {v : Int32} : (x_wS m p k v).1 q j = if q = p ∧ j = k then v else m.1 q j := rfl
theorem xw_S2 {m : x_m} {p k : Nat} {v : Int32} : (x_wS m p k v).2 = m.2 := rfl
theorem xw_A1 {m : x_m} {p k : Nat} {v : Int32} : (x_wA m p k v).1 = m.1 := rfl
theorem xw_A2 {m : x_m} {p k q j : Nat} {v : Int32} : (x_wA m p k v).2.1 q j = if q = p ∧ j = k then v else m.2.1 q j := rfl
theorem xw_A3 {m : x_m} {p k : Nat} {v : Int32} : (x_wA m p k v).2.2 = m.2.2 := rfl
theorem xw_R1 {m : x_m} {p k : Nat} {v : Nat} : (x_wR m p k v).1 = m.1 := rfl
theorem xw_R2 {m : x_m} {p k : Nat} {v : Nat} : (x_wR m p k v).2.1 = m.2.1 := rfl
theorem xw_R3 {m : x_m} {p k q j : Nat} {v : Nat} : (x_wR m p k v).2.2.1 q j = if q = p ∧ j = k then v else m.2.2.1 q j := rfl
theorem xw_R4 {m : x_m} {p k : Nat} {v : Nat} : (x_wR m p k v).2.2.2 = m.2.2.2 := rfl
theorem x_u2_same {α : Type} (f : Nat → Nat → α) (p j : Nat) : x_u2 f p j (f p j) = f := by
  funext a b
  unfold x_u2
  by_cases h : a = p ∧ b = j
  · rw [if_pos h, h.1, h.2]
  · rw [if_neg h]
theorem x_u2_u2 {α : Type} (f : Nat → Nat → α) (p j : Nat) (u v : α) : x_u2 (x_u2 f p j u) p j v = x_u2 f p j v := by
  funext a b
  unfold x_u2
  by_cases h : a = p ∧ b = j
  · rw [if_pos h, if_pos h]
  · rw [if_neg h, if_neg h, if_neg h]
theorem xw_SS {m : x_m} {p k : Nat} {u v : Int32} : x_wS (x_wS m p k u) p k v = x_wS m p k v := by
  unfold x_wS
  show (x_u2 (x_u2 m.1 p k u) p k v, m.2) = _
  rw [x_u2_u2]
theorem xw_S0 {m : x_m} {p k : Nat} {v : Int32} (h : m.1 p k = v) : x_wS m p k v = m := by
  subst h
  unfold x_wS
  rw [x_u2_same]
-- spans
def isBl (c : Int32) : Bool := decide (c = 32) || decide (c = 9) || decide (c = 10) || decide (c = 13)
def isLet (c : Int32) : Bool := (decide (97 ≤ c) && decide (c ≤ 122)) || (decide (65 ≤ c) && decide (c ≤ 90))
def isDig (c : Int32) : Bool := decide (48 ≤ c) && decide (c ≤ 57)
def isWd (c : Int32) : Bool := isLet c || isDig c || decide (c = 95)
/-- behind the row of f's from i on, k steps at most -/
def spn (f : Int32 → Bool) (b : Nat → Int32) : Nat → Nat → Nat
  | 0, i => i
  | k + 1, i => if f (b i) = true then spn f b k (i + 1) else i
theorem spn_ge (f : Int32 → Bool) (b : Nat → Int32) : ∀ k i, i ≤ spn f b k i
  | 0, i => Nat.le_refl i
  | k + 1, i => by
    unfold spn
    by_cases h : f (b i) = true
    · rw [if_pos h]; exact Nat.le_trans (Nat.le_succ i) (spn_ge f b k (i + 1))
    · rw [if_neg h]; exact Nat.le_refl i
theorem spn_le (f : Int32 → Bool) (b : Nat → Int32) : ∀ k i, spn f b k i ≤ i + k
  | 0, i => Nat.le_refl i
  | k + 1, i => by
    unfold spn
    by_cases h : f (b i) = true
    · rw [if_pos h]; have := spn_le f b k (i + 1); omega
    · rw [if_neg h]; omega
theorem spn_in (f : Int32 → Bool) (b : Nat → Int32) : ∀ k i j, i ≤ j → j < spn f b k i → f (b j) = true
  | 0, i, j, h1, h2 => absurd h2 (Nat.not_lt.mpr h1)
  | k + 1, i, j, h1, h2 => by
    unfold spn at h2
    by_cases h : f (b i) = true
    · rw [if_pos h] at h2
      by_cases e : j = i
      · rw [e]; exact h
      · exact spn_in f b k (i + 1) j (by omega) h2
    · rw [if_neg h] at h2; omega
theorem spn_out (f : Int32 → Bool) (b : Nat → Int32) : ∀ k i, spn f b k i < i + k → ¬ f (b (spn f b k i)) = true
  | 0, i, h => absurd h (by show ¬ i < i + 0; omega)
  | k + 1, i, h => by
    unfold spn at h ⊢
    by_cases e : f (b i) = true
    · rw [if_pos e] at h ⊢; exact spn_out f b k (i + 1) (by omega)
    · rw [if_neg e]; exact e
