/-! characters -/
def sg (c : Nat) : Int32 := if c < 128 then xI c else xI c - 256
def isB (x : Int32) : Prop := ∃ c, c < 256 ∧ x = sg c
def bI (b : Bool) : Int32 := if b = true then 1 else 0
theorem bI_0 (b : Bool) : (bI b = 0) = (b = false) := by cases b <;> simp [bI]
theorem bI_1 (b : Bool) : x_b1 (bI b) = true := by cases b <;> rfl
theorem sg_and : ∀ c, c < 256 → sg c &&& 255 = xI c := by decide +kernel
theorem sg_bl : ∀ c, c < 256 → isBl (xI c) = isBl (sg c) := by decide +kernel
theorem sg_let : ∀ c, c < 256 → isLet (xI c) = isLet (sg c) := by decide +kernel
theorem sg_dig : ∀ c, c < 256 → isDig (xI c) = isDig (sg c) := by decide +kernel
theorem sg_wd : ∀ c, c < 256 → isWd (xI c) = isWd (sg c) := by decide +kernel
theorem sg_eq (c l : Nat) (hc : c < 256) (hl : l < 128) : (xI c = xI l) = (sg c = xI l) := by
  by_cases h : c < 128
  · rw [show sg c = xI c from if_pos h]
  · have h2 : ∀ c, c < 256 → 128 ≤ c → sg c < 0 := by decide +kernel
    have h3 := h2 c hc (by omega)
    rw [xI_eq (by omega) (by omega)]
    apply propext
    constructor
    · intro e; omega
    · intro e; rw [e, xI_ge0 (by omega)] at h3; exact h3.elim
theorem isB_bl {x : Int32} (h : isB x) : isBl (x &&& 255) = isBl x := by
  obtain ⟨c, hc, rfl⟩ := h; rw [sg_and c hc, sg_bl c hc]
theorem isB_let {x : Int32} (h : isB x) : isLet (x &&& 255) = isLet x := by
  obtain ⟨c, hc, rfl⟩ := h; rw [sg_and c hc, sg_let c hc]
theorem isB_dig {x : Int32} (h : isB x) : isDig (x &&& 255) = isDig x := by
  obtain ⟨c, hc, rfl⟩ := h; rw [sg_and c hc, sg_dig c hc]
theorem isB_eq {x : Int32} (l : Nat) (h : isB x) (hl : l < 128) : (x &&& 255 = xI l) = (x = xI l) := by
  obtain ⟨c, hc, rfl⟩ := h; rw [sg_and c hc, sg_eq c l hc hl]
theorem wd_pos : ∀ c, c < 256 → isWd (sg c) = true → sg c = xI c ∧ 32 < c ∧ c < 128 := by decide +kernel
theorem isB_wd {x : Int32} (h : isB x) (w : isWd x = true) : ∃ c, 32 < c ∧ c < 128 ∧ x = xI c ∧ x &&& 255 = x := by
  obtain ⟨c, hc, rfl⟩ := h
  obtain ⟨h1, h2, h3⟩ := wd_pos c hc w
  exact ⟨c, h2, h3, h1, by rw [sg_and c hc, h1]⟩
theorem dig_pos : ∀ c, c < 256 → isDig (sg c) = true → sg c = xI c ∧ 48 ≤ c ∧ c ≤ 57 := by decide +kernel
theorem isB_digv {x : Int32} (h : isB x) (w : isDig x = true) : ∃ c, 48 ≤ c ∧ c ≤ 57 ∧ x = xI c ∧ x &&& 255 = x := by
  obtain ⟨c, hc, rfl⟩ := h
  obtain ⟨h1, h2, h3⟩ := dig_pos c hc w
  exact ⟨c, h2, h3, h1, by rw [sg_and c hc, h1]⟩
theorem let_wd {x : Int32} (h : isLet x = true) : isWd x = true := by unfold isWd; rw [h]; rfl
theorem F_LX_isLetter_eq (a : Int32) (m : x_m) : F_LX_isLetter a m = some (bI (isLet a), m) := by
  unfold F_LX_isLetter B_LX_isLetter_12 B_LX_isLetter_24 B_LX_isLetter_28 B_LX_isLetter_29 isLet bI x_b1
  simp only [Int32.lt_iff_toInt_lt, Int32.le_iff_toInt_le, show (97 : Int32).toInt = 97 from rfl, show (122 : Int32).toInt = 122 from rfl, show (65 : Int32).toInt = 65 from rfl, show (90 : Int32).toInt = 90 from rfl]
  generalize a.toInt = x
  by_cases h1 : x < 97 <;> by_cases h2 : x ≤ 122 <;> by_cases h3 : x < 65 <;> by_cases h4 : 90 < x <;> simp [h1, h2, h3, h4] <;> omega
theorem F_MD_isLetter_eq (a : Int32) (m : x_m) : F_MD_isLetter a m = some (bI (isLet a), m) := by
  unfold F_MD_isLetter B_MD_isLetter_12 B_MD_isLetter_24 B_MD_isLetter_28 B_MD_isLetter_29 isLet bI x_b1
  simp only [Int32.lt_iff_toInt_lt, Int32.le_iff_toInt_le, show (97 : Int32).toInt = 97 from rfl, show (122 : Int32).toInt = 122 from rfl, show (65 : Int32).toInt = 65 from rfl, show (90 : Int32).toInt = 90 from rfl]
  generalize a.toInt = x
  by_cases h1 : x < 97 <;> by_cases h2 : 122 < x <;> by_cases h3 : x < 65 <;> by_cases h4 : x ≤ 90 <;> simp [h1, h2, h3, h4] <;> omega
theorem F_MD_isDigit_eq (a : Int32) (m : x_m) : F_MD_isDigit a m = some (bI (isDig a), m) := by
  unfold F_MD_isDigit B_MD_isDigit_16 B_MD_isDigit_17 isDig bI x_b1
  simp only [Int32.lt_iff_toInt_lt, Int32.le_iff_toInt_le, show (48 : Int32).toInt = 48 from rfl, show (57 : Int32).toInt = 57 from rfl]
  generalize a.toInt = x
  by_cases h1 : x < 48 <;> by_cases h2 : 57 < x <;> simp [h1, h2] <;> omega
theorem F_LX_isDigit_eq {i n : Nat} {m : x_m} (hi : i ≤ 20001) (hn : n ≤ 20000) (h1 : m.1 1 1 = xI n) : F_LX_isDigit (xI i) m = some (bI (decide (i < n) && isDig (m.2.1 2 i)), m) := by
  unfold F_LX_isDigit B_LX_isDigit_43 B_LX_isDigit_44
  rw [h1, xI_ix (by omega), xI_cl (by omega)]
  simp only [xI_le (a := n) (b := i) (by omega) (by omega)]
  by_cases h : n ≤ i
  · rw [if_pos h, show decide (i < n) = false from decide_eq_false (by omega)]; rfl
  · rw [if_neg h, show decide (i < n) = true from decide_eq_true (by omega)]
    simp only [show (decide (i < 65536) = true) = True from by simp; omega, if_true]
    unfold isDig bI x_b1
    simp only [Int32.lt_iff_toInt_lt, Int32.le_iff_toInt_le, show (48 : Int32).toInt = 48 from rfl, show (57 : Int32).toInt = 57 from rfl]
    generalize (m.2.1 2 i).toInt = x
    by_cases h1 : x < 48 <;> by_cases h2 : 57 < x <;> simp [h1, h2] <;> omega
theorem F_MD_look_eq {i n : Nat} {m : x_m} (hi : i ≤ 20001) (hn : n ≤ 20000) (h1 : m.1 387 4 = xI n) : F_MD_look (xI i) m = some (if i < n then m.2.1 388 i &&& 255 else 0, m) := by
  unfold F_MD_look B_MD_look_22
  rw [h1, xI_ix (by omega), xI_cl (by omega)]
  simp only [xI_le (a := n) (b := i) (by omega) (by omega)]
  by_cases h : n ≤ i
  · rw [if_pos h, if_neg (by omega)]
  · rw [if_neg h, if_pos (by simp; omega), if_pos (by omega)]
/-! the words: their letters; a key is a row of letters, seven bits each -/
def pkA : Nat → List Nat → Nat
  | a, [] => a
  | a, c :: l => pkA (a * 128 + c) l
theorem pkA_lt : ∀ (l : List Nat) (a k : Nat), (∀ c ∈ l, c < 128) → a < 128 ^ k → pkA a l < 128 ^ (k + l.length)
  | [], a, k, _, h => h
  | c :: l, a, k, hl, h => by
    have h1 : a * 128 + c < 128 ^ (k + 1) := by
      have := hl c (List.mem_cons_self ..)
      rw [Nat.pow_succ]; omega
    have := pkA_lt l (a * 128 + c) (k + 1) (fun x hx => hl x (List.mem_cons_of_mem _ hx)) h1
    show pkA (a * 128 + c) l < _
    rw [List.length_cons, Nat.add_comm l.length 1, ← Nat.add_assoc]; exact this
theorem pkA_snoc : ∀ (l : List Nat) (a c : Nat), pkA a (l ++ [c]) = pkA a l * 128 + c
  | [], _, _ => rfl
  | x :: l, a, c => pkA_snoc l (a * 128 + x) c
/-- rows of digits 1 .. 127 are known by their number -/
theorem pkA_inj : ∀ (n : Nat) (l r : List Nat), l.length = n → (∀ c ∈ l, 0 < c ∧ c < 128) → (∀ c ∈ r, 0 < c ∧ c < 128) → pkA 0 l = pkA 0 r → l = r := by
  intro n
  induction n with
  | zero =>
    intro l r hn hl hr h
    have : l = [] := List.length_eq_zero_iff.mp hn
    subst this
    rcases List.eq_nil_or_concat r with e | ⟨r', c, e⟩
    · exact e.symm
    · subst e
      rw [List.concat_eq_append, pkA_snoc] at h
      have := hr c (by simp)
      have h : 0 = pkA 0 r' * 128 + c := h
      omega
  | succ n ih =>
    intro l r hn hl hr h
    rcases List.eq_nil_or_concat l with e | ⟨l', a, e⟩
    · subst e; simp at hn
    · subst e
      rw [List.concat_eq_append] at *
      rw [pkA_snoc] at h
      have h1 := hl a (by simp)
      rcases List.eq_nil_or_concat r with e | ⟨r', c, e⟩
      · subst e
        have h : pkA 0 l' * 128 + a = 0 := h
        omega
      · subst e
        rw [List.concat_eq_append] at *
        rw [pkA_snoc] at h
        have h2 := hr c (by simp)
        have h3 : pkA 0 l' = pkA 0 r' ∧ a = c := by omega
        have := ih l' r' (by simp at hn; exact hn) (fun x hx => hl x (by simp [hx])) (fun x hx => hr x (by simp [hx])) h3.1
        rw [this, h3.2]
/-- the letters from i on, k of them -/
def wls (b : Nat → Int32) : Nat → Nat → List Nat
  | 0, _ => []
  | k + 1, i => (b i).toNatClampNeg :: wls b k (i + 1)
theorem wls_len (b : Nat → Int32) : ∀ k i, (wls b k i).length = k
  | 0, _ => rfl
  | k + 1, i => congrArg (· + 1) (wls_len b k (i + 1))
theorem wls_get (b : Nat → Int32) : ∀ k i j, j < k → (wls b k i).getD j 0 = (b (i + j)).toNatClampNeg
  | 0, _, _, h => absurd h (Nat.not_lt_zero _)
  | k + 1, i, 0, _ => rfl
  | k + 1, i, j + 1, h => by
    have := wls_get b k (i + 1) j (by omega)
    rw [show i + (j + 1) = i + 1 + j by omega, ← this]; rfl
theorem wls_all (b : Nat → Int32) (P : Nat → Prop) : ∀ k i, (∀ j, i ≤ j → j < i + k → P (b j).toNatClampNeg) → ∀ c ∈ wls b k i, P c
  | 0, _, _, c, hc => absurd hc (by simp [wls])
  | k + 1, i, h, c, hc => by
    rcases List.mem_cons.mp hc with e | e
    · rw [e]; exact h i (Nat.le_refl i) (by omega)
    · exact wls_all b P k (i + 1) (fun j h1 h2 => h j (by omega) (by omega)) c e
/-- the spellings of the kinds -/
def spl : List (List Nat) := [[], [], [], [], [], [40], [41], [44], [59], [46], [42], [61], [60, 62], [60], [60, 61], [62], [62, 61],
  [100, 105, 109, 101, 110, 115, 105, 111, 110], [109, 101, 97, 115, 117, 114, 101], [109, 101, 109, 98, 101, 114], [115, 101, 108, 101, 99, 116], [119, 104, 101, 114, 101], [103, 114, 111, 117, 112], [98, 121], [114, 111, 108, 108, 117, 112], [99, 117, 98, 101], [103, 114, 111, 117, 112, 105, 110, 103], [115, 117, 109], [99, 111, 117, 110, 116], [109, 105, 110], [109, 97, 120], [97, 110, 100], [111, 114], [110, 111, 116], [98, 101, 116, 119, 101, 101, 110], [105, 110]]
theorem spl_kk : ∀ i, i < 36 → x_kk.getD i 0 = Int64.ofNat (pkA 0 (spl.getD i [])) := by decide +kernel
theorem spl_dg : ∀ i, i < 36 → ∀ c ∈ spl.getD i [], 0 < c ∧ c < 128 := by decide +kernel
theorem spl_len : ∀ i, i < 36 → (spl.getD i []).length ≤ 9 := by decide +kernel
/-- the kind that is spelled so, from i on; d if there is none -/
def kfr (w : List Nat) (d : Nat) : Nat → Nat → Nat
  | 0, _ => d
  | k + 1, i => if spl.getD i [] = w then i else kfr w d k (i + 1)
def kof (w : List Nat) (d : Nat) : Nat := kfr w d 36 0
theorem kfr_le (w : List Nat) (d : Nat) : ∀ k i, kfr w d k i = d ∨ (i ≤ kfr w d k i ∧ kfr w d k i < i + k ∧ spl.getD (kfr w d k i) [] = w)
  | 0, _ => Or.inl rfl
  | k + 1, i => by
    unfold kfr
    by_cases h : spl.getD i [] = w
    · rw [if_pos h]; exact Or.inr ⟨Nat.le_refl i, by omega, h⟩
    · rw [if_neg h]
      rcases kfr_le w d k (i + 1) with e | e
      · exact Or.inl e
      · exact Or.inr ⟨by omega, by omega, e.2.2⟩
theorem y_cmp0 (a b : Int64) : (lg_cmp a b = 0) = (a = b) := by
  apply propext
  unfold lg_cmp
  by_cases h1 : a > b
  · rw [if_pos h1]
    constructor
    · intro h; exact absurd h (by decide)
    · intro h; subst h; exact absurd h1 Int64.lt_irrefl
  · rw [if_neg h1]
    by_cases h2 : a = b
    · rw [if_pos h2]; simp [h2]
    · rw [if_neg h2]
      constructor
      · intro h; exact absurd h (by decide)
      · intro h; exact absurd h h2
theorem y_cmp_le (a b : Int64) : (lg_cmp a b ≤ 0) = (a ≤ b) := by
  apply propext
  unfold lg_cmp
  by_cases h1 : a > b
  · rw [if_pos h1]
    constructor
    · intro h; exact absurd h (by decide)
    · intro h; exact absurd h (Int64.not_le.mpr h1)
  · rw [if_neg h1]
    have h3 : a ≤ b := Int64.not_lt.mp h1
    by_cases h2 : a = b
    · rw [if_pos h2]; simp [h3]
    · rw [if_neg h2]; simp [h3]
theorem y_cmp_gt (a b : Int64) : (0 < lg_cmp a b) = (b < a) := by
  have := y_cmp_le a b
  rw [← Int32.not_le, this, Int64.not_le]
theorem y_cmp_lt (a b : Int64) : (lg_cmp a b < 0) = (a < b) := by
  apply propext
  unfold lg_cmp
  by_cases h1 : a > b
  · rw [if_pos h1]
    constructor
    · intro h; exact absurd h (by decide)
    · intro h; exact absurd (Int64.lt_trans h h1) Int64.lt_irrefl
  · rw [if_neg h1]
    by_cases h2 : a = b
    · rw [if_pos h2]; subst h2
      constructor
      · intro h; exact absurd h (by decide)
      · intro h; exact absurd h Int64.lt_irrefl
    · rw [if_neg h2]
      constructor
      · intro _; exact Int64.lt_of_le_of_ne (Int64.not_lt.mp h1) h2
      · intro _; decide
/-- longs that are whole numbers -/
def jI (z : Int) : Int64 := Int64.ofInt z
theorem jI_toInt {z : Int} (h1 : -9223372036854775808 ≤ z) (h2 : z < 9223372036854775808) : (jI z).toInt = z := Int64.toInt_ofInt_of_le (by omega) (by omega)
theorem jI_eq {a b : Int} (h1 : -9223372036854775808 ≤ a) (h2 : a < 9223372036854775808) (h3 : -9223372036854775808 ≤ b) (h4 : b < 9223372036854775808) : (jI a = jI b) = (a = b) := by
  apply propext
  rw [← Int64.toInt_inj, jI_toInt h1 h2, jI_toInt h3 h4]
theorem jI_lt {a b : Int} (h1 : -9223372036854775808 ≤ a) (h2 : a < 9223372036854775808) (h3 : -9223372036854775808 ≤ b) (h4 : b < 9223372036854775808) : (jI a < jI b) = (a < b) := by
  apply propext
  rw [Int64.lt_iff_toInt_lt, jI_toInt h1 h2, jI_toInt h3 h4]
theorem jI_le {a b : Int} (h1 : -9223372036854775808 ≤ a) (h2 : a < 9223372036854775808) (h3 : -9223372036854775808 ≤ b) (h4 : b < 9223372036854775808) : (jI a ≤ jI b) = (a ≤ b) := by
  apply propext
  rw [Int64.le_iff_toInt_le, jI_toInt h1 h2, jI_toInt h3 h4]
theorem xI_long {c : Nat} (h : c < 2147483648) : (xI c).toInt64 = jI c := by
  rw [← Int64.toInt_inj, Int32.toInt_toInt64, jI_toInt (by omega) (by omega)]
  exact Int32.toInt_ofNat_of_lt h
/-- seven bits more -/
theorem key_step (a c : Nat) (ha : a < 72057594037927936) (hc : c < 128) : (jI a <<< ((7 : Int32).toInt64 &&& 63)) ||| (xI c).toInt64 = jI ((a * 128 + c : Nat) : Int) := by
  rw [xI_long (by omega)]
  have e7 : ((7 : Int32).toInt64 &&& 63) = (7 : Int64) := by decide
  rw [e7]
  apply Int64.toBitVec_inj.mp
  rw [Int64.toBitVec_or, Int64.toBitVec_shiftLeft]
  show (BitVec.ofInt 64 a <<< (7#64).smod 64) ||| BitVec.ofInt 64 c = BitVec.ofInt 64 _
  rw [show (7#64).smod 64 = 7#64 from by decide]
  apply BitVec.eq_of_toNat_eq
  rw [BitVec.ofInt_natCast, BitVec.ofInt_natCast, BitVec.ofInt_natCast]
  simp only [BitVec.toNat_or, BitVec.toNat_ofNat]
  rw [show ((BitVec.ofNat 64 a) <<< (7#64)).toNat = ((BitVec.ofNat 64 a) <<< 7).toNat from rfl]
  rw [BitVec.toNat_shiftLeft, BitVec.toNat_ofNat]
  rw [Nat.mod_eq_of_lt (show a < 2 ^ 64 by omega), Nat.mod_eq_of_lt (show c < 2 ^ 64 by omega), Nat.mod_eq_of_lt (show a * 128 + c < 2 ^ 64 by omega)]
  rw [Nat.mod_eq_of_lt (show a <<< 7 < 2 ^ 64 by rw [Nat.shiftLeft_eq]; omega)]
  rw [← Nat.shiftLeft_add_eq_or_of_lt (show c < 2 ^ 7 by omega), Nat.shiftLeft_eq]
def pk64 : Int64 → List Nat → Int64
  | a, [] => a
  | a, c :: l => pk64 ((a <<< ((7 : Int32).toInt64 &&& 63)) ||| (xI c).toInt64) l
theorem pk64_eq : ∀ (l : List Nat) (a k : Nat), (∀ c ∈ l, c < 128) → a < 128 ^ k → k + l.length ≤ 9 → pk64 (jI a) l = jI (pkA a l : Nat)
  | [], _, _, _, _, _ => rfl
  | c :: l, a, k, hl, ha, hk => by
    have hc := hl c (List.mem_cons_self ..)
    rw [List.length_cons] at hk
    have h8 : 128 ^ k ≤ 128 ^ 8 := Nat.pow_le_pow_right (by omega) (by omega)
    have h9 : (128 : Nat) ^ 8 = 72057594037927936 := by decide
    show pk64 _ l = _
    rw [key_step a c (by omega) hc]
    exact pk64_eq l (a * 128 + c) (k + 1) (fun x hx => hl x (List.mem_cons_of_mem _ hx)) (by rw [Nat.pow_succ]; omega) (by omega)
theorem F_KD_spelled_0 {key : Int64} (h : key ≤ 0) (d : Nat) (m : x_m) : F_KD_spelled key d m = some (d, m) := by
  unfold F_KD_spelled B_KD_spelled_41
  rw [if_pos (by rw [y_cmp_le]; exact h)]
theorem pkA_9 {w : List Nat} (hd : ∀ c ∈ w, 0 < c ∧ c < 128) (hl : w.length ≤ 9) : pkA 0 w < 9223372036854775808 := by
  have h1 := pkA_lt w 0 0 (fun c h => (hd c h).2) (by decide)
  have h2 : 128 ^ (0 + w.length) ≤ 128 ^ 9 := Nat.pow_le_pow_right (by omega) (by omega)
  have h9 : (128 : Nat) ^ 9 = 9223372036854775808 := by decide
  omega
theorem spl_kk' : ∀ i, i < 36 → x_kk.getD i 0 = jI (pkA 0 (spl.getD i []) : Nat) := by decide +kernel
theorem KD_loop (w : List Nat) (d : Nat) (m : x_m) (hd : ∀ c ∈ w, 0 < c ∧ c < 128) (hl : w.length ≤ 9) : ∀ (k i f : Nat), i + k = 36 → k < f → B_KD_spelled_8 f (jI (pkA 0 w : Nat)) (x_N + d) (xI i) m = some (x_N + kfr w d k i, m) := by
  intro k
  induction k with
  | zero =>
    intro i f hi hf
    cases f with
    | zero => omega
    | succ f =>
      have : i = 36 := by omega
      subst this
      rfl
  | succ k ih =>
    intro i f hi hf
    cases f with
    | zero => omega
    | succ f =>
      unfold B_KD_spelled_8
      rw [if_neg (by show ¬ (xI 36 ≤ xI i); rw [xI_le (by omega) (by omega)]; omega), xI_ix (by omega), if_pos (by simp; omega), xI_cl (by omega)]
      rw [if_pos (by unfold x_kv; simp; omega), Nat.add_sub_cancel_left, spl_kk' i (by omega)]
      simp only [y_cmp0, show (decide (i < 36) = true) = True from by simp; omega, if_true]
      have b1 := pkA_9 hd hl
      have b2 := pkA_9 (spl_dg i (by omega)) (spl_len i (by omega))
      rw [xI_add1, ih (i + 1) f (by omega) (by omega)]
      simp only [jI_eq (a := ((pkA 0 (spl.getD i []) : Nat) : Int)) (b := ((pkA 0 w : Nat) : Int)) (by omega) (by omega) (by omega) (by omega)]
      rw [kfr]
      by_cases e : spl.getD i [] = w
      · rw [if_pos e, if_pos (by rw [e])]
      · rw [if_neg e, if_neg (fun h => e (pkA_inj _ _ _ rfl (spl_dg i (by omega)) hd (by omega)))]
theorem F_KD_spelled_eq (w : List Nat) (d : Nat) (m : x_m) (h0 : w ≠ []) (hd : ∀ c ∈ w, 0 < c ∧ c < 128) (hl : w.length ≤ 9) : F_KD_spelled (jI (pkA 0 w : Nat)) (x_N + d) m = some (x_N + kof w d, m) := by
  unfold F_KD_spelled
  have b1 := pkA_9 hd hl
  have b0 : pkA 0 w ≠ 0 := by
    intro h
    exact h0 (pkA_inj _ w [] rfl hd (by simp) h)
  rw [if_neg (by rw [y_cmp_le]; show ¬ (jI _ ≤ jI 0); rw [jI_le (by omega) (by omega) (by omega) (by omega)]; omega)]
  exact KD_loop w d m hd hl 36 0 x_fu (by omega) (by decide)
