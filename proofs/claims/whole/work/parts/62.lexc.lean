/-! the lexer, as a function; the class's lexer -/
def numOk (neg : Bool) (a : Nat) : Bool := if neg = true then decide (a ≤ 2147483648) else decide (a ≤ 2147483647)
def numJ (neg : Bool) (a : Nat) : Int64 := if neg = true then jI (-(a : Int)) else jI a
/-- the digits' number, no further than it may be one of an int -/
def cN (b : Nat → Int32) : Nat → Nat → Nat → Nat
  | 0, _, a => a
  | k + 1, i, a => cN b k (i + 1) (if a ≤ 2147483648 then a * 10 + ((b i).toNatClampNeg - 48) else a)
theorem cN_le (b : Nat → Int32) : ∀ k i a, (∀ j, i ≤ j → j < i + k → (b j).toNatClampNeg ≤ 57) → a ≤ 21474836489 → cN b k i a ≤ 21474836489
  | 0, _, _, _, h => h
  | k + 1, i, a, hb, h => by
    refine cN_le b k (i + 1) _ (fun j h1 h2 => hb j (by omega) (by omega)) ?_
    have := hb i (Nat.le_refl i) (by omega)
    by_cases e : a ≤ 2147483648
    · rw [if_pos e]; omega
    · rw [if_neg e]; exact h
/-- a sign, by its letters -/
def sgnK (x y : Int32) : Nat × Nat :=
  if (x = 60 ∧ (y = 61 ∨ y = 62)) ∨ (x = 62 ∧ y = 61) then (kof [x.toNatClampNeg, y.toNatClampNeg] 1, 2) else (if 0 < x then kof [x.toNatClampNeg] 1 else 1, 1)
def tokW (b : Nat → Int32) (n s : Nat) : Nat × Nat × Nat × Int32 :=
  (if 40 < spn isWd b (n - s) s - s then 4 else if 9 < spn isWd b (n - s) s - s then 3 else kof (wls b (spn isWd b (n - s) s - s) s) 3, s, spn isWd b (n - s) s, 0)
/-- a number, whose digits begin at s1 -/
def tokN1 (b : Nat → Int32) (n s s1 : Nat) (neg : Bool) : Nat × Nat × Nat × Int32 :=
  (if numOk neg (cN b (spn isDig b (n - s1) s1 - s1) s1 0) = true then 2 else 36, s, spn isDig b (n - s1) s1, (numJ neg (cN b (spn isDig b (n - s1) s1 - s1) s1 0)).toInt32)
def tokN (b : Nat → Int32) (n s : Nat) : Nat × Nat × Nat × Int32 := tokN1 b n s (if b s = 45 then s + 1 else s) (decide (b s = 45))
def tokS (b : Nat → Int32) (n s : Nat) : Nat × Nat × Nat × Int32 :=
  ((sgnK (b s) (if s + 1 < n then b (s + 1) else 0)).1, s, s + (sgnK (b s) (if s + 1 < n then b (s + 1) else 0)).2, 0)
def isNum (b : Nat → Int32) (n s : Nat) : Bool := isDig (b s) || (decide (b s = 45) && (decide (s + 1 < n) && isDig (b (s + 1))))
theorem isNum_iff (b : Nat → Int32) (n s : Nat) : isNum b n s = true ↔ (isDig (b s) = true ∨ (b s = 45 ∧ s + 1 < n ∧ isDig (b (s + 1)) = true)) := by
  unfold isNum; simp
/-- the next token, whose start is s: its kind, its start, its end, its number -/
def lx1 (b : Nat → Int32) (n s : Nat) : Nat × Nat × Nat × Int32 :=
  if s < n then (if isLet (b s) = true then tokW b n s else if isNum b n s = true then tokN b n s else tokS b n s) else (0, s, s, 0)
def lx (b : Nat → Int32) (n p : Nat) : Nat × Nat × Nat × Int32 := lx1 b n (spn isBl b (n - p) p)
theorem spn_s (f : Int32 → Bool) (b : Nat → Int32) (k i : Nat) : spn f b (k + 1) i = if f (b i) = true then spn f b k (i + 1) else i := rfl
theorem bl_step {α : Type} (x : Int32) (A B : α) : (if x = 32 then A else if x = 9 then A else if x = 10 then A else if x = 13 then A else B) = if isBl x = true then A else B := by
  unfold isBl
  by_cases c1 : x = 32
  · simp [c1]
  · by_cases c2 : x = 9
    · simp [c2]
    · by_cases c3 : x = 10
      · simp [c3]
      · by_cases c4 : x = 13
        · simp [c4]
        · simp [c1, c2, c3, c4]
theorem p_skipB : ∀ (k i f n : Nat) (m : x_m), i + k = n → k < f → n ≤ 20000 → m.1 1 1 = xI n → m.1 3 3 = xI i → B_LX_skipBlanks_5 f (xI i) m = some (x_wS m 3 3 (xI (spn isBl (m.2.1 2) k i))) := by
  intro k
  induction k with
  | zero =>
    intro i f n m hi hf hn h1 h3
    cases f with
    | zero => omega
    | succ f =>
      rw [B_LX_skipBlanks_5, h1, if_pos (by rw [xI_le (by omega) (by omega)]; omega)]
      show some m = some _
      rw [show spn isBl (m.2.1 2) 0 i = i from rfl, xw_S0 h3]
  | succ k ih =>
    intro i f n m hi hf hn h1 h3
    cases f with
    | zero => omega
    | succ f =>
      rw [B_LX_skipBlanks_5, h1, if_neg (by rw [xI_le (by omega) (by omega)]; omega), xI_ix (by omega), if_pos (by simp; omega), xI_cl (by omega)]
      have go : B_LX_skipBlanks_53 (B_LX_skipBlanks_5 f) (xI i) m = some (x_wS m 3 3 (xI (spn isBl (m.2.1 2) k (i + 1)))) := by
        unfold B_LX_skipBlanks_53
        rw [h3, xI_add1, ih (i + 1) f n (x_wS m 3 3 (xI (i + 1))) (by omega) (by omega) hn h1 rfl, xw_SS]
        rfl
      have stop : B_LX_skipBlanks_69 m = some (x_wS m 3 3 (xI i)) := by rw [xw_S0 h3]; rfl
      rw [go, stop, bl_step, spn_s]
      by_cases w : isBl (m.2.1 2 i) = true
      · rw [if_pos w, if_pos w]
      · rw [if_neg w, if_neg w]
/-- one step of the class's row of letters -/
theorem scanWord_step (K : Int64 → Int32 → x_m → Option (Int64 × x_m)) (a : Int64) (l : Int32) (x : Int32) (m : x_m) : (if x < 97 then B_LX_scanWord_43 K a l x m else if x ≤ 122 then B_LX_scanWord_81 K a l x m else B_LX_scanWord_43 K a l x m) = if isWd x = true then B_LX_scanWord_81 K a l x m else B_LX_scanWord_106 a m := by
  unfold B_LX_scanWord_43 B_LX_scanWord_57 B_LX_scanWord_71 isWd isLet isDig
  have e95 : (x = 95) = (x.toInt = 95) := by
    apply propext; rw [← Int32.toInt_inj]; exact Iff.rfl
  simp only [e95, Int32.lt_iff_toInt_lt, Int32.le_iff_toInt_le, show (97 : Int32).toInt = 97 from rfl, show (122 : Int32).toInt = 122 from rfl, show (65 : Int32).toInt = 65 from rfl, show (90 : Int32).toInt = 90 from rfl, show (48 : Int32).toInt = 48 from rfl, show (57 : Int32).toInt = 57 from rfl]
  generalize B_LX_scanWord_81 K a l x m = A
  generalize B_LX_scanWord_106 a m = B
  generalize x.toInt = z
  simp only [Bool.or_eq_true, Bool.and_eq_true, decide_eq_true_eq]
  repeat' split
  all_goals first | rfl | (exfalso; omega)
theorem p_scanW : ∀ (k i f n : Nat) (a : Int64) (m : x_m), i + k = n → k < f → n ≤ 20000 → m.1 1 1 = xI n → m.1 3 3 = xI i → (∀ j, isB (m.2.1 2 j)) →
    B_LX_scanWord_7 f a (xI i) m = B_LX_scanWord_106 (pk64 a (wls (m.2.1 2) (spn isWd (m.2.1 2) k i - i) i)) (x_wS m 3 3 (xI (spn isWd (m.2.1 2) k i))) := by
  intro k
  induction k with
  | zero =>
    intro i f n a m hi hf hn h1 h3 hb
    cases f with
    | zero => omega
    | succ f =>
      rw [B_LX_scanWord_7, h1, if_pos (by rw [xI_le (by omega) (by omega)]; omega)]
      rw [show spn isWd (m.2.1 2) 0 i = i from rfl, xw_S0 h3, Nat.sub_self]
      rfl
  | succ k ih =>
    intro i f n a m hi hf hn h1 h3 hb
    cases f with
    | zero => omega
    | succ f =>
      rw [B_LX_scanWord_7, h1, if_neg (by rw [xI_le (by omega) (by omega)]; omega), xI_ix (by omega), if_pos (by simp; omega), xI_cl (by omega), scanWord_step]
      rw [spn_s]
      by_cases w : isWd (m.2.1 2 i) = true
      · rw [if_pos w, if_pos w]
        unfold B_LX_scanWord_81
        rw [h3, xI_add1, ih (i + 1) f n _ (x_wS m 3 3 (xI (i + 1))) (by omega) (by omega) hn h1 rfl hb]
        show B_LX_scanWord_106 (pk64 _ (wls (m.2.1 2) (spn isWd (m.2.1 2) k (i + 1) - (i + 1)) (i + 1))) (x_wS (x_wS m 3 3 (xI (i + 1))) 3 3 (xI (spn isWd (m.2.1 2) k (i + 1)))) = _
        have hg := spn_ge isWd (m.2.1 2) k (i + 1)
        rw [xw_SS, show spn isWd (m.2.1 2) k (i + 1) - i = (spn isWd (m.2.1 2) k (i + 1) - (i + 1)) + 1 by omega]
        obtain ⟨c, h32, hc, e, _⟩ := isB_wd (hb i) w
        show _ = B_LX_scanWord_106 (pk64 ((a <<< ((7 : Int32).toInt64 &&& 63)) ||| (xI (m.2.1 2 i).toNatClampNeg).toInt64) _) _
        rw [e, xI_cl (by omega)]
      · rw [if_neg w, if_neg w, xw_S0 h3, Nat.sub_self]
        rfl
theorem dig_no : ∀ c, c < 256 → (sg c - 48 < 0 → isDig (sg c) = false) ∧ (¬ sg c - 48 < 0 → (decide (sg c - 48 ≤ 9) = isDig (sg c))) ∧ (isDig (sg c) = true → (sg c - 48).toInt64 = jI ((c - 48 : Nat) : Int) ∧ (sg c).toNatClampNeg = c) := by decide +kernel
theorem p_scanN : ∀ (k i f n a : Nat) (l1 : Int32) (m : x_m), i + k = n → k < f → n ≤ 20000 → m.1 1 1 = xI n → m.1 3 3 = xI i → (∀ j, isB (m.2.1 2 j)) → a ≤ 21474836489 →
    B_LX_scanNumber_45 f l1 (jI a) (xI i) m = B_LX_scanNumber_121 l1 (jI (cN (m.2.1 2) (spn isDig (m.2.1 2) k i - i) i a : Nat)) (x_wS m 3 3 (xI (spn isDig (m.2.1 2) k i))) := by
  intro k
  induction k with
  | zero =>
    intro i f n a l1 m hi hf hn h1 h3 hb ha
    cases f with
    | zero => omega
    | succ f =>
      rw [B_LX_scanNumber_45, h1, if_pos (by rw [xI_le (by omega) (by omega)]; omega)]
      rw [show spn isDig (m.2.1 2) 0 i = i from rfl, xw_S0 h3, Nat.sub_self]
      rfl
  | succ k ih =>
    intro i f n a l1 m hi hf hn h1 h3 hb ha
    cases f with
    | zero => omega
    | succ f =>
      rw [B_LX_scanNumber_45, h1, if_neg (by rw [xI_le (by omega) (by omega)]; omega), xI_ix (by omega), if_pos (by simp; omega), xI_cl (by omega)]
      obtain ⟨c, hc, e⟩ := hb i
      obtain ⟨d1, d2, d3⟩ := dig_no c hc
      rw [← e] at d1 d2 d3
      rw [spn_s]
      by_cases w : isDig (m.2.1 2 i) = true
      · have hn0 : ¬ m.2.1 2 i - 48 < 0 := fun z => by rw [d1 z] at w; exact absurd w (by decide)
        have h9 : m.2.1 2 i - 48 ≤ 9 := by have := d2 hn0; rw [w] at this; exact of_decide_eq_true this
        have hg := spn_ge isDig (m.2.1 2) k (i + 1)
        obtain ⟨v1, v2⟩ := d3 w
        obtain ⟨c', hc1, hc2, hc3, _⟩ := isB_digv (hb i) w
        have hcc : c = c' := by rw [hc3, xI_cl (by omega)] at v2; exact v2.symm
        rw [if_neg hn0, if_pos h9, if_pos w]
        rw [show spn isDig (m.2.1 2) k (i + 1) - i = (spn isDig (m.2.1 2) k (i + 1) - (i + 1)) + 1 by omega]
        show _ = B_LX_scanNumber_121 l1 (jI (cN (m.2.1 2) (spn isDig (m.2.1 2) k (i + 1) - (i + 1)) (i + 1) (if a ≤ 2147483648 then a * 10 + ((m.2.1 2 i).toNatClampNeg - 48) else a) : Nat)) _
        rw [v2]
        have step : ∀ a' : Nat, a' ≤ 21474836489 → B_LX_scanNumber_105 (B_LX_scanNumber_45 f) l1 (jI a') (xI i) m = B_LX_scanNumber_121 l1 (jI (cN (m.2.1 2) (spn isDig (m.2.1 2) k (i + 1) - (i + 1)) (i + 1) a' : Nat)) (x_wS m 3 3 (xI (spn isDig (m.2.1 2) k (i + 1)))) := by
          intro a' ha'
          unfold B_LX_scanNumber_105
          rw [h3, xI_add1, ih (i + 1) f n a' l1 (x_wS m 3 3 (xI (i + 1))) (by omega) (by omega) hn h1 rfl hb ha']
          rw [xw_SS]
          rfl
        have hgt : (0 < lg_cmp (jI a) 2147483648) = (2147483648 < a) := by
          rw [lg_cmp_gt]
          show (jI 2147483648 < jI a) = _
          rw [jI_lt (by omega) (by omega) (by omega) (by omega)]
          apply propext; omega
        simp only [hgt]
        by_cases hl : a ≤ 2147483648
        · rw [if_neg (by omega), if_pos hl, v1]
          have e2 : jI (a : Int) * 10 + jI ((c - 48 : Nat) : Int) = jI ((a * 10 + (c - 48) : Nat) : Int) := by
            show Int64.ofInt _ * Int64.ofInt 10 + Int64.ofInt _ = Int64.ofInt _
            rw [← Int64.ofInt_mul, ← Int64.ofInt_add]
            congr 1
          rw [e2]
          exact step _ (by omega)
        · rw [if_pos (by omega), if_neg hl]
          exact step a ha
      · rw [if_neg w, xw_S0 h3, Nat.sub_self]
        by_cases hn0 : m.2.1 2 i - 48 < 0
        · rw [if_pos hn0]; rfl
        · rw [if_neg hn0]
          have h9 : ¬ m.2.1 2 i - 48 ≤ 9 := by
            intro z
            have := d2 hn0
            rw [decide_eq_true z] at this
            exact w this.symm
          rw [if_neg h9]; rfl

/-! the class's memory at a token -/
def kUn (k : Nat) : Int32 := if k = 0 then 3 else if k = 1 then 1 else if k = 36 then 2 else 4
def kWb (k : Nat) : Bool := decide (k = 3) || decide (k = 4) || (decide (17 ≤ k) && decide (k ≤ 35))
def kRf (k : Nat) : Nat := x_N + (if k = 36 then 1 else k)
def kNu (k : Nat) : Bool := decide (k = 2) || decide (k = 36)
def ct (m : x_m) (k s e : Nat) : x_m :=
  (fun a b => if a = 3 then (if b = 2 then xI s else if b = 3 then xI e else if b = 7 then bI (kWb k) else if b = 8 then kUn k else m.1 a b) else m.1 a b, m.2.1,
   fun a b => if a = 3 ∧ b = 1 then kRf k else m.2.2.1 a b, m.2.2.2)
/-- the number that was read -/
def cnb (m : x_m) (k : Nat) (v : Int32) : x_m := if kNu k = true then x_wS m 3 4 v else m
theorem ct_ct (m : x_m) (k s e k' s' e' : Nat) : ct (ct m k s e) k' s' e' = ct m k' s' e' := by
  unfold ct
  refine Prod.ext ?_ (Prod.ext rfl (Prod.ext ?_ rfl))
  · funext a b
    show (if a = 3 then _ else _) = (if a = 3 then _ else _)
    by_cases h : a = 3
    · simp only [if_pos h]
      repeat' split
      all_goals rfl
    · simp only [if_neg h]
  · funext a b
    show (if a = 3 ∧ b = 1 then _ else _) = (if a = 3 ∧ b = 1 then _ else _)
    by_cases h : a = 3 ∧ b = 1
    · simp only [if_pos h]
    · simp only [if_neg h]
theorem ct_of {m m' : x_m} {k s e : Nat} (a2 : m'.2.1 = m.2.1) (a4 : m'.2.2.2 = m.2.2.2) (ha : ∀ a b, a ≠ 3 → m'.1 a b = m.1 a b) (h2 : m'.1 3 2 = xI s) (h3 : m'.1 3 3 = xI e) (h7 : m'.1 3 7 = bI (kWb k)) (h8 : m'.1 3 8 = kUn k)
    (hx : ∀ b, b ≠ 2 → b ≠ 3 → b ≠ 7 → b ≠ 8 → m'.1 3 b = m.1 3 b) (r : m'.2.2.1 3 1 = kRf k) (rx : ∀ a b, ¬ (a = 3 ∧ b = 1) → m'.2.2.1 a b = m.2.2.1 a b) : m' = ct m k s e := by
  unfold ct
  refine Prod.ext ?_ (Prod.ext a2 (Prod.ext ?_ a4))
  · funext a b
    show m'.1 a b = if a = 3 then _ else _
    by_cases h : a = 3
    · subst h
      rw [if_pos rfl]
      by_cases b2 : b = 2
      · subst b2; exact h2
      · by_cases b3 : b = 3
        · subst b3; exact h3
        · by_cases b7 : b = 7
          · subst b7; exact h7
          · by_cases b8 : b = 8
            · subst b8; exact h8
            · rw [if_neg b2, if_neg b3, if_neg b7, if_neg b8]; exact hx b b2 b3 b7 b8
    · rw [if_neg h]; exact ha a b h
  · funext a b
    show m'.2.2.1 a b = if a = 3 ∧ b = 1 then _ else _
    by_cases h : a = 3 ∧ b = 1
    · rw [if_pos h, h.1, h.2]; exact r
    · rw [if_neg h]; exact rx a b h
theorem ct_nb (m : x_m) (k s e k' : Nat) (v : Int32) (s' e' : Nat) : ct (cnb (ct m k s e) k' v) k' s' e' = ct (cnb m k' v) k' s' e' := by
  unfold cnb
  by_cases h : kNu k' = true
  · rw [if_pos h, if_pos h]
    refine ct_of rfl rfl ?_ rfl rfl rfl rfl ?_ rfl ?_
    · intro a b ha; simp [ct, x_wS, x_u2, ha]
    · intro b h2 h3 h7 h8; simp [ct, x_wS, x_u2, h2, h3, h7, h8]
    · intro a b h; simp [ct, x_wS, x_u2, h]
  · rw [if_neg h, if_neg h, ct_ct]
/-- the class's memory behind the token t -/
def ctT (m : x_m) (t : Nat × Nat × Nat × Int32) : x_m := ct (cnb m t.1 t.2.2.2) t.1 t.2.1 t.2.2.1
theorem num_cmp (neg : Bool) (a : Nat) (ha : a ≤ 21474836489) : (lg_cmp ((numJ neg a).toInt32.toInt64) (numJ neg a) = 0) = (numOk neg a = true) := by
  rw [y_cmp0, ← Int64.toInt_inj, Int32.toInt_toInt64, Int64.toInt_toInt32]
  apply propext
  cases neg
  · show (jI a).toInt.bmod (2 ^ 32) = (jI a).toInt ↔ decide (a ≤ 2147483647) = true
    rw [jI_toInt (by omega) (by omega), decide_eq_true_eq, Int.bmod_def]
    omega
  · show (jI (-(a : Int))).toInt.bmod (2 ^ 32) = (jI (-(a : Int))).toInt ↔ decide (a ≤ 2147483648) = true
    rw [jI_toInt (by omega) (by omega), decide_eq_true_eq, Int.bmod_def]
    omega

theorem F_LX_scanSign_eq {m : x_m} {n s : Nat} (hn : n ≤ 20000) (hs : s < n) (h1 : m.1 1 1 = xI n) (h2 : m.1 3 2 = xI s) :
    F_LX_scanSign m = some (if (m.2.1 2 s = 60 ∧ ((if s + 1 < n then m.2.1 2 (s + 1) else 0) = 61 ∨ (if s + 1 < n then m.2.1 2 (s + 1) else 0) = 62)) ∨ (m.2.1 2 s = 62 ∧ (if s + 1 < n then m.2.1 2 (s + 1) else 0) = 61) then ((((m.2.1 2 s) <<< ((7 : Int32) &&& 31)) ||| (if s + 1 < n then m.2.1 2 (s + 1) else 0)).toInt64, x_wS m 3 3 (xI (s + 2))) else ((m.2.1 2 s).toInt64, x_wS m 3 3 (xI (s + 1)))) := by
  have key : ∀ x y : Int32, B_LX_scanSign_47 x y m = some (if (x = 60 ∧ (y = 61 ∨ y = 62)) ∨ (x = 62 ∧ y = 61) then (((x <<< ((7 : Int32) &&& 31)) ||| y).toInt64, x_wS m 3 3 (xI (s + 2))) else (x.toInt64, x_wS m 3 3 (xI (s + 1)))) := by
    intro x y
    unfold B_LX_scanSign_47 B_LX_scanSign_66 B_LX_scanSign_78 B_LX_scanSign_82 B_LX_scanSign_83 B_LX_scanSign_104 B_LX_scanSign_123
    rw [h2, xI_add1, show xI s + 2 = xI (s + 2) from xI_add s 2]
    by_cases c1 : x = 60
    · subst c1
      by_cases c2 : y = 61
      · simp [c2]
      · by_cases c3 : y = 62
        · simp [c3]
        · simp [c2, c3]
    · by_cases c2 : x = 62
      · subst c2
        by_cases c3 : y = 61
        · simp [c3]
        · simp [c3]
      · simp [c1, c2]
  unfold F_LX_scanSign
  rw [h1, h2, xI_ix (by omega), if_pos (by simp; omega), xI_add1, xI_cl (by omega), xI_ix (by omega), xI_cl (by omega)]
  simp only [xI_le (a := n) (b := s + 1) (by omega) (by omega), key]
  by_cases h : n ≤ s + 1
  · simp only [if_pos h, if_neg (show ¬ s + 1 < n by omega)]
  · simp only [if_neg h, if_pos (show s + 1 < n by omega), show (decide (s + 1 < 65536) = true) = True from by simp; omega, if_true]
theorem sgn_key (x y : Int32) (hx : isB x) (m : x_m) : F_KD_spelled (if (x = 60 ∧ (y = 61 ∨ y = 62)) ∨ (x = 62 ∧ y = 61) then ((x <<< ((7 : Int32) &&& 31)) ||| y).toInt64 else x.toInt64) (x_N + 1) m = some (x_N + (sgnK x y).1, m) := by
  unfold sgnK
  by_cases h : (x = 60 ∧ (y = 61 ∨ y = 62)) ∨ (x = 62 ∧ y = 61)
  · rw [if_pos h, if_pos h]
    rcases h with ⟨h1, h2 | h2⟩ | ⟨h1, h2⟩ <;> subst h1 <;> subst h2
    · exact F_KD_spelled_eq [60, 61] 1 m (by simp) (by decide) (by decide)
    · exact F_KD_spelled_eq [60, 62] 1 m (by simp) (by decide) (by decide)
    · exact F_KD_spelled_eq [62, 61] 1 m (by simp) (by decide) (by decide)
  · rw [if_neg h, if_neg h]
    obtain ⟨c, hc, rfl⟩ := hx
    by_cases h0 : 0 < sg c
    · have hp : ∀ c, c < 256 → 0 < sg c → sg c = xI c ∧ 0 < c ∧ c < 128 := by decide +kernel
      obtain ⟨e, h2, h3⟩ := hp c hc h0
      show F_KD_spelled _ _ m = some (x_N + (if 0 < sg c then kof [(sg c).toNatClampNeg] 1 else 1), m)
      rw [if_pos h0, e, xI_cl (by omega), xI_long (by omega)]
      have := F_KD_spelled_eq [c] 1 m (by simp) (by simp; omega) (by simp)
      rw [show pkA 0 [c] = c from by simp [pkA]] at this
      exact this
    · show F_KD_spelled _ _ m = some (x_N + (if 0 < sg c then kof [(sg c).toNatClampNeg] 1 else 1), m)
      rw [if_neg h0]
      refine F_KD_spelled_0 ?_ _ m
      rw [Int64.le_iff_toInt_le, Int32.toInt_toInt64]
      have := Int32.not_lt.mp h0
      rw [Int32.le_iff_toInt_le] at this
      exact this
theorem kof1 (w : List Nat) (h : w.length = 1) : kof w 1 = 1 ∨ (5 ≤ kof w 1 ∧ kof w 1 ≤ 16) := by
  have ht : ∀ k, k < 36 → (spl.getD k []).length = 1 → 5 ≤ k ∧ k ≤ 16 := by decide +kernel
  show kfr w 1 36 0 = 1 ∨ (5 ≤ kfr w 1 36 0 ∧ kfr w 1 36 0 ≤ 16)
  rcases kfr_le w 1 36 0 with e | ⟨_, h2, h3⟩
  · exact Or.inl e
  · exact Or.inr (ht _ (by omega) (by rw [h3]; exact h))
theorem sgnK_k (x y : Int32) : ((sgnK x y).1 = 1 ∨ (5 ≤ (sgnK x y).1 ∧ (sgnK x y).1 ≤ 16)) ∧ ((sgnK x y).2 = 1 ∨ (sgnK x y).2 = 2 ∧ (sgnK x y).1 ≠ 1 ∧ y ≠ 0) := by
  unfold sgnK
  by_cases h : (x = 60 ∧ (y = 61 ∨ y = 62)) ∨ (x = 62 ∧ y = 61)
  · rw [if_pos h]
    rcases h with ⟨h1, h2 | h2⟩ | ⟨h1, h2⟩ <;> subst h1 <;> subst h2 <;> decide +kernel
  · rw [if_neg h]
    refine ⟨?_, Or.inl rfl⟩
    show (if 0 < x then kof [x.toNatClampNeg] 1 else 1) = 1 ∨ _
    by_cases h0 : 0 < x
    · rw [if_pos h0]; exact kof1 _ rfl
    · rw [if_neg h0]; exact Or.inl rfl
theorem spl_wd : ∀ k, k < 36 → 5 ≤ k → k ≤ 16 → ∀ c ∈ spl.getD k [], isWd (xI c) = false := by decide +kernel
theorem spl_em : ∀ k, k < 5 → spl.getD k [] = [] := by decide +kernel
/-- a word's kind -/
theorem kof3 (w : List Nat) (h0 : w ≠ []) (hw : ∀ c ∈ w, isWd (xI c) = true) : kof w 3 = 3 ∨ (17 ≤ kof w 3 ∧ kof w 3 ≤ 35 ∧ spl.getD (kof w 3) [] = w) := by
  rcases kfr_le w 3 36 0 with e | ⟨_, h2, h3⟩
  · exact Or.inl e
  · refine Or.inr ?_
    have e : kof w 3 = kfr w 3 36 0 := rfl
    rw [e]
    refine ⟨?_, by omega, h3⟩
    refine Nat.le_of_not_lt (fun z => ?_)
    by_cases h5 : kfr w 3 36 0 < 5
    · rw [spl_em _ h5] at h3; exact h0 h3.symm
    · cases w with
      | nil => exact h0 rfl
      | cons c l =>
        have a1 := spl_wd _ (by omega) (Nat.le_of_not_lt h5) (by omega) c (by rw [h3]; exact List.mem_cons_self ..)
        rw [hw c (List.mem_cons_self ..)] at a1
        exact absurd a1 (by decide)
/-- the letters of a word in the text -/
theorem wls_wd {b : Nat → Int32} (hb : ∀ j, isB (b j)) (n s : Nat) : ∀ c ∈ wls b (spn isWd b (n - s) s - s) s, 0 < c ∧ c < 128 ∧ isWd (xI c) = true := by
  refine wls_all b _ _ s (fun j h1 h2 => ?_)
  have hg := spn_ge isWd b (n - s) s
  have w := spn_in isWd b (n - s) s j h1 (by omega)
  obtain ⟨c, h32, hc, e, _⟩ := isB_wd (hb j) w
  rw [e, xI_cl (by omega)]
  rw [e] at w
  exact ⟨by omega, by omega, w⟩
theorem spn_pos {f : Int32 → Bool} {b : Nat → Int32} {n s : Nat} (h : s < n) (hf : f (b s) = true) : s < spn f b (n - s) s := by
  rw [show n - s = (n - s - 1) + 1 by omega, spn_s, if_pos hf]
  have := spn_ge f b (n - s - 1) (s + 1)
  omega

theorem F_LX_advance_eq {m : x_m} {n p : Nat} (hn : n ≤ 20000) (hp : p ≤ n) (h1 : m.1 1 1 = xI n) (h3 : m.1 3 3 = xI p) (hb : ∀ j, isB (m.2.1 2 j)) :
    F_LX_advance m = some (ctT m (lx (m.2.1 2) n p)) := by
  have e0 : F_LX_skipBlanks m = some (x_wS m 3 3 (xI (spn isBl (m.2.1 2) (n - p) p))) := by
    unfold F_LX_skipBlanks
    rw [h3]
    exact p_skipB (n - p) p x_fu n m (by omega) (by unfold x_fu; omega) hn h1 h3
  unfold F_LX_advance
  rw [e0]
  have hs1 := spn_ge isBl (m.2.1 2) (n - p) p
  have hs2 := spn_le isBl (m.2.1 2) (n - p) p
  unfold lx
  generalize spn isBl (m.2.1 2) (n - p) p = s at *
  show (if _ then _ else _) = _
  generalize hm1 : x_wS (x_wS (x_wS (x_wS m 3 3 (xI s)) 3 2 ((x_wS m 3 3 (xI s)).1 3 3)) 3 7 0) 3 8 4 = m1
  have q1 : m1.1 1 1 = xI n := by rw [← hm1]; exact h1
  have q2 : m1.1 3 2 = xI s := by rw [← hm1]; rfl
  have q3 : m1.1 3 3 = xI s := by rw [← hm1]; rfl
  have q4 : m1.2.1 = m.2.1 := by rw [← hm1]; rfl
  have hb1 : ∀ j, isB (m1.2.1 2 j) := by rw [q4]; exact hb
  rw [q1, q2, xI_ix (by omega), xI_cl (by omega), q4]
  simp only [xI_lt (a := s) (b := n) (by omega) (by omega)]
  unfold lx1
  by_cases hsn : s < n
  · rw [if_pos hsn, if_pos hsn]
    simp only [show (decide (s < 65536) = true) = True from by simp; omega, if_true]
    rw [F_LX_isLetter_eq]
    show (if bI _ = 0 then _ else _) = _
    simp only [bI_0]
    by_cases hl : isLet (m.2.1 2 s) = true
    · rw [if_neg (show ¬ isLet (m.2.1 2 s) = false by rw [hl]; decide), if_pos hl]
      have ew : F_LX_scanWord m1 = B_LX_scanWord_106 (pk64 0 (wls (m.2.1 2) (spn isWd (m.2.1 2) (n - s) s - s) s)) (x_wS m1 3 3 (xI (spn isWd (m.2.1 2) (n - s) s))) := by
        unfold F_LX_scanWord
        rw [q2, p_scanW (n - s) s x_fu n 0 m1 (by omega) (by unfold x_fu; omega) hn q1 q3 hb1, q4]
      have hd := wls_wd hb n s
      have hpos : s < spn isWd (m.2.1 2) (n - s) s := spn_pos hsn (let_wd hl)
      have hle := spn_le isWd (m.2.1 2) (n - s) s
      have hlen := wls_len (m.2.1 2) (spn isWd (m.2.1 2) (n - s) s - s) s
      rw [ew]
      unfold ctT tokW
      generalize spn isWd (m.2.1 2) (n - s) s = e at *
      unfold B_LX_scanWord_106 B_LX_scanWord_125
      have l1 : (x_wS m1 3 3 (xI e)).1 3 3 = xI e := rfl
      have l2 : (x_wS m1 3 3 (xI e)).1 3 2 = xI s := q2
      have l3 : (x_wS (x_wS m1 3 3 (xI e)) 3 7 1).1 3 3 = xI e := rfl
      have l4 : (x_wS (x_wS m1 3 3 (xI e)) 3 7 1).1 3 2 = xI s := q2
      have fin : ∀ k, k = 3 ∨ k = 4 ∨ (17 ≤ k ∧ k ≤ 35) → B_LX_advance_107 (x_N + k) (x_wS (x_wS m1 3 3 (xI e)) 3 7 1) = some (ct (cnb m k 0) k s e) := by
        intro k hk
        unfold B_LX_advance_107 B_LX_advance_243
        have hnu : kNu k = false := by unfold kNu; simp; omega
        rw [show cnb m k 0 = m from by unfold cnb; rw [hnu]; rfl]
        congr 1
        subst hm1
        refine ct_of rfl rfl ?_ rfl rfl ?_ ?_ ?_ ?_ ?_
        · intro a b ha; simp [x_wS, x_wR, x_u2, ha]
        · rw [show kWb k = true from by unfold kWb; simp; omega]; rfl
        · rw [show kUn k = 4 from by unfold kUn; rw [if_neg (by omega), if_neg (by omega), if_neg (by omega)]]; rfl
        · intro b h2 h3 h7 h8; simp [x_wS, x_wR, x_u2, h2, h3, h7, h8]
        · rw [show kRf k = x_N + k from by unfold kRf; rw [if_neg (by omega)]]; rfl
        · intro a b h; simp [x_wS, x_wR, x_u2, h]
      rw [l1, l2, xI_sub (by omega)]
      simp only [show (xI (e - s) ≤ 9) = (e - s ≤ 9) from xI_le (b := 9) (by omega) (by omega)]
      by_cases h9 : e - s ≤ 9
      · rw [if_pos h9]
        show (if _ then _ else _) = _
        rw [l3, l4, xI_sub (by omega)]
        simp only [show (xI (e - s) ≤ 40) = (e - s ≤ 40) from xI_le (b := 40) (by omega) (by omega)]
        rw [if_pos (by omega)]
        rw [show (pk64 0 (wls (m.2.1 2) (e - s) s)) = jI (pkA 0 (wls (m.2.1 2) (e - s) s) : Nat) from pk64_eq _ 0 0 (fun c h => (hd c h).2.1) (by decide) (by omega)]
        have hne : wls (m.2.1 2) (e - s) s ≠ [] := by intro z; rw [z] at hlen; simp at hlen; omega
        rw [F_KD_spelled_eq _ 3 _ hne (fun c h => ⟨(hd c h).1, (hd c h).2.1⟩) (by omega)]
        show B_LX_advance_107 _ _ = _
        rw [if_neg (by omega), if_neg (by omega)]
        have hk := kof3 _ hne (fun c h => (hd c h).2.2)
        exact fin _ (by omega)
      · rw [if_neg h9]
        show (if _ then _ else _) = _
        rw [l3, l4, xI_sub (by omega)]
        simp only [show (xI (e - s) ≤ 40) = (e - s ≤ 40) from xI_le (b := 40) (by omega) (by omega)]
        by_cases h40 : e - s ≤ 40
        · rw [if_pos h40, F_KD_spelled_0 (by decide)]
          show B_LX_advance_107 _ _ = _
          rw [if_neg (by omega), if_pos (by omega)]
          exact fin 3 (by omega)
        · rw [if_neg h40, if_pos (by omega)]
          exact fin 4 (by omega)
    · rw [if_pos (show isLet (m.2.1 2 s) = false by simpa using hl), if_neg hl]
      rw [q2, F_LX_isDigit_eq (by omega) hn q1]
      show (if bI _ = 0 then _ else _) = _
      rw [q4, show decide (s < n) = true from decide_eq_true hsn, Bool.true_and]
      simp only [bI_0]
      have num : isNum (m.2.1 2) n s = true → B_LX_advance_154 m1 = some (ctT m (tokN (m.2.1 2) n s)) := by
        intro hnum
        have go : ∀ (neg : Bool) (s1 : Nat) (m2 : x_m), s1 ≤ n → s ≤ s1 → m2.1 1 1 = xI n → m2.1 3 3 = xI s1 → m2.2.1 = m.2.1 →
            (B_LX_scanNumber_39 (bI neg) 0 m2).bind (fun r155 => (if (lg_cmp (((x_wS r155.2 3 4 r155.1.toInt32).1 3 4).toInt64) r155.1) = 0 then B_LX_advance_185 r155.1 (x_N + 2) (x_wS r155.2 3 4 r155.1.toInt32) else B_LX_advance_185 r155.1 (x_N + 1) (x_wS r155.2 3 4 r155.1.toInt32)))
            = (if numOk neg (cN (m.2.1 2) (spn isDig (m.2.1 2) (n - s1) s1 - s1) s1 0) = true then some (x_wS (x_wR (x_wS (x_wS m2 3 3 (xI (spn isDig (m.2.1 2) (n - s1) s1))) 3 4 (numJ neg (cN (m.2.1 2) (spn isDig (m.2.1 2) (n - s1) s1 - s1) s1 0)).toInt32) 3 1 (x_N + 2)) 3 8 4) else some (x_wS (x_wR (x_wS (x_wS m2 3 3 (xI (spn isDig (m.2.1 2) (n - s1) s1))) 3 4 (numJ neg (cN (m.2.1 2) (spn isDig (m.2.1 2) (n - s1) s1 - s1) s1 0)).toInt32) 3 1 (x_N + 1)) 3 8 2)) := by
          intro neg s1 m2 a1 a2 a3 a4 a5
          unfold B_LX_scanNumber_39
          rw [a4, show (0 : Int64) = jI (0 : Nat) from rfl, p_scanN (n - s1) s1 x_fu n 0 (bI neg) m2 (by omega) (by unfold x_fu; omega) hn a3 a4 (by rw [a5]; exact hb) (by omega), a5]
          have hc : cN (m.2.1 2) (spn isDig (m.2.1 2) (n - s1) s1 - s1) s1 0 ≤ 21474836489 := by
            refine cN_le _ _ _ _ (fun j h1 h2 => ?_) (by omega)
            have hg := spn_ge isDig (m.2.1 2) (n - s1) s1
            obtain ⟨c, h48, h57, e, _⟩ := isB_digv (hb j) (spn_in isDig (m.2.1 2) (n - s1) s1 j h1 (by omega))
            rw [e, xI_cl (by omega)]; exact h57
          generalize cN (m.2.1 2) (spn isDig (m.2.1 2) (n - s1) s1 - s1) s1 0 = a at *
          generalize spn isDig (m.2.1 2) (n - s1) s1 = e at *
          have e1 : B_LX_scanNumber_121 (bI neg) (jI a) (x_wS m2 3 3 (xI e)) = some (numJ neg a, x_wS m2 3 3 (xI e)) := by
            unfold B_LX_scanNumber_121 B_LX_scanNumber_131
            cases neg
            · rfl
            · show (if (1 : Int32) = 0 then _ else some (-jI a, _)) = _
              rw [if_neg (by decide)]
              show some (-Int64.ofInt _, _) = some (Int64.ofInt (-_), _)
              rw [Int64.neg_ofInt]
          rw [e1]
          show (if lg_cmp (numJ neg a).toInt32.toInt64 (numJ neg a) = 0 then _ else _) = _
          have hcmp := num_cmp neg a hc
          simp only [hcmp]
          unfold B_LX_advance_185 B_LX_advance_204 B_LX_advance_243
          by_cases ho : numOk neg a = true
          · rw [if_pos ho, if_pos ho]
            exact if_pos (by have := hcmp; rw [ho] at this; exact this.mpr rfl)
          · rw [if_neg ho, if_neg ho]
            exact if_neg (fun z => ho (hcmp.mp z))
        have fin : ∀ (neg : Bool) (s1 e a : Nat) (m2 : x_m), m2 = m1 ∨ m2 = x_wS m1 3 3 (xI (s + 1)) → (if numOk neg a = true then some (x_wS (x_wR (x_wS (x_wS m2 3 3 (xI e)) 3 4 (numJ neg a).toInt32) 3 1 (x_N + 2)) 3 8 4) else some (x_wS (x_wR (x_wS (x_wS m2 3 3 (xI e)) 3 4 (numJ neg a).toInt32) 3 1 (x_N + 1)) 3 8 2)) = some (ctT m (if numOk neg a = true then 2 else 36, s, e, (numJ neg a).toInt32)) := by
          intro neg s1 e a m2 hm2
          by_cases ho : numOk neg a = true
          · rw [if_pos ho, if_pos ho]
            congr 1
            subst hm1
            show _ = ct (x_wS m 3 4 _) 2 s e
            rcases hm2 with hm2 | hm2 <;> subst hm2
            all_goals
              refine ct_of rfl rfl ?_ rfl rfl rfl rfl ?_ rfl ?_
              · intro a b ha; simp [x_wS, x_wR, x_u2, ha]
              · intro b h2 h3 h7 h8; simp [x_wS, x_wR, x_u2, h2, h3, h7, h8]
              · intro a b h; simp [x_wS, x_wR, x_u2, h]
          · rw [if_neg ho, if_neg ho]
            congr 1
            subst hm1
            show _ = ct (x_wS m 3 4 _) 36 s e
            rcases hm2 with hm2 | hm2 <;> subst hm2
            all_goals
              refine ct_of rfl rfl ?_ rfl rfl rfl rfl ?_ rfl ?_
              · intro a b ha; simp [x_wS, x_wR, x_u2, ha]
              · intro b h2 h3 h7 h8; simp [x_wS, x_wR, x_u2, h2, h3, h7, h8]
              · intro a b h; simp [x_wS, x_wR, x_u2, h]
        unfold B_LX_advance_154 F_LX_scanNumber
        rw [q2, xI_ix (by omega), if_pos (by simp; omega), xI_cl (by omega), q4]
        unfold tokN tokN1
        by_cases h45 : m.2.1 2 s = 45
        · rw [if_pos h45, if_pos h45, decide_eq_true h45]
          unfold B_LX_scanNumber_22
          rw [if_neg (by decide), q3, xI_add1]
          have hs1n : s + 1 < n := by
            rcases (isNum_iff _ _ _).mp hnum with z | z
            · rw [h45] at z; exact absurd z (by decide)
            · exact z.2.1
          refine (go true (s + 1) (x_wS m1 3 3 (xI (s + 1))) (by omega) (by omega) q1 rfl q4).trans ?_
          exact fin true (s + 1) _ _ _ (Or.inr rfl)
        · rw [if_neg h45, if_neg h45, decide_eq_false h45]
          unfold B_LX_scanNumber_22
          rw [if_pos rfl]
          refine (go false s m1 (by omega) (by omega) q1 q3 q4).trans ?_
          exact fin false s _ _ _ (Or.inl rfl)
      have sgn : B_LX_advance_210 m1 = some (ctT m (tokS (m.2.1 2) n s)) := by
        unfold B_LX_advance_210
        rw [F_LX_scanSign_eq hn hsn q1 q2, q4]
        unfold tokS ctT
        generalize hy : (if s + 1 < n then m.2.1 2 (s + 1) else 0) = y
        have hk := sgnK_k (m.2.1 2 s) y
        have key := sgn_key (m.2.1 2 s) y (hb s) (x_wS m1 3 3 (xI (s + (sgnK (m.2.1 2 s) y).2)))
        have e2 : (if (m.2.1 2 s = 60 ∧ (y = 61 ∨ y = 62)) ∨ (m.2.1 2 s = 62 ∧ y = 61) then ((((m.2.1 2 s) <<< ((7 : Int32) &&& 31)) ||| y).toInt64, x_wS m1 3 3 (xI (s + 2))) else ((m.2.1 2 s).toInt64, x_wS m1 3 3 (xI (s + 1)))) = ((if (m.2.1 2 s = 60 ∧ (y = 61 ∨ y = 62)) ∨ (m.2.1 2 s = 62 ∧ y = 61) then (((m.2.1 2 s) <<< ((7 : Int32) &&& 31)) ||| y).toInt64 else (m.2.1 2 s).toInt64), x_wS m1 3 3 (xI (s + (sgnK (m.2.1 2 s) y).2))) := by
          unfold sgnK
          by_cases h : (m.2.1 2 s = 60 ∧ (y = 61 ∨ y = 62)) ∨ (m.2.1 2 s = 62 ∧ y = 61)
          · rw [if_pos h, if_pos h, if_pos h]
          · rw [if_neg h, if_neg h, if_neg h]
        rw [e2]
        show ((F_KD_spelled _ _ _).bind _) = _
        rw [key]
        generalize sgnK (m.2.1 2 s) y = r at *
        show (if x_kv (x_N + r.1) = true then (if x_N + r.1 = x_N + 1 then _ else _) else none) = _
        rw [if_pos (by unfold x_kv; simp; omega)]
        unfold B_LX_advance_240 B_LX_advance_243
        have hnu : kNu r.1 = false := by unfold kNu; simp; omega
        rw [show cnb m r.1 0 = m from by unfold cnb; rw [hnu]; rfl]
        have kw : kWb r.1 = false := by unfold kWb; simp; omega
        have kr : kRf r.1 = x_N + r.1 := by unfold kRf; rw [if_neg (by omega)]
        by_cases hr : r.1 = 1
        · rw [if_pos (by rw [hr])]
          congr 1
          subst hm1
          refine ct_of rfl rfl ?_ rfl rfl ?_ ?_ ?_ ?_ ?_
          · intro a b ha; simp [x_wS, x_wR, x_u2, ha]
          · rw [kw]; rfl
          · rw [hr]; rfl
          · intro b h2 h3 h7 h8; simp [x_wS, x_wR, x_u2, h2, h3, h7, h8]
          · rw [kr]; rfl
          · intro a b h; simp [x_wS, x_wR, x_u2, h]
        · rw [if_neg (by omega)]
          congr 1
          subst hm1
          refine ct_of rfl rfl ?_ rfl rfl ?_ ?_ ?_ ?_ ?_
          · intro a b ha; simp [x_wS, x_wR, x_u2, ha]
          · rw [kw]; rfl
          · rw [show kUn r.1 = 4 from by unfold kUn; rw [if_neg (by omega), if_neg (by omega), if_neg (by omega)]]; rfl
          · intro b h2 h3 h7 h8; simp [x_wS, x_wR, x_u2, h2, h3, h7, h8]
          · rw [kr]; rfl
          · intro a b h; simp [x_wS, x_wR, x_u2, h]
      by_cases hd : isDig (m.2.1 2 s) = true
      · have hN : isNum (m.2.1 2) n s = true := (isNum_iff _ _ _).mpr (Or.inl hd)
        rw [if_neg (by rw [hd]; decide), if_pos hN]
        exact num hN
      · have hd' : isDig (m.2.1 2 s) = false := by simpa using hd
        rw [if_pos hd', q2, xI_ix (by omega), if_pos (by simp; omega), xI_cl (by omega)]
        by_cases h45 : m.2.1 2 s = 45
        · rw [if_pos h45, xI_add1, F_LX_isDigit_eq (by omega) hn q1]
          show (if bI _ = 0 then _ else _) = _
          rw [q4]
          simp only [bI_0]
          by_cases h2 : s + 1 < n ∧ isDig (m.2.1 2 (s + 1)) = true
          · have hN : isNum (m.2.1 2) n s = true := (isNum_iff _ _ _).mpr (Or.inr ⟨h45, h2⟩)
            rw [if_neg (by simp [h2.1, h2.2]), if_pos hN]
            exact num hN
          · rw [if_pos (by simp; intro z; by_cases y : isDig (m.2.1 2 (s + 1)) = true; exact absurd ⟨z, y⟩ h2; simpa using y), if_neg (fun z => by rcases (isNum_iff _ _ _).mp z with z | z; exact hd z; exact h2 z.2)]
            exact sgn
        · rw [if_neg h45, if_neg (fun z => by rcases (isNum_iff _ _ _).mp z with z | z; exact hd z; exact h45 z.1)]
          exact sgn
  · rw [if_neg hsn, if_neg hsn]
    unfold B_LX_advance_243
    show some _ = some (ct m 0 s s)
    congr 1
    subst hm1
    refine ct_of rfl rfl ?_ rfl rfl rfl rfl ?_ rfl ?_
    · intro a b ha; simp [x_wS, x_wR, x_u2, ha]
    · intro b h2 h3 h7 h8; simp [x_wS, x_wR, x_u2, h2, h3, h7, h8]
    · intro a b h; simp [x_wS, x_wR, x_u2, h]
