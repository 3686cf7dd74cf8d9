/-! the reference's lexer -/
def rTk (k : Nat) : Int32 := if k = 0 then 0 else if kWb k = true then 1 else if kNu k = true then 2 else 3
def rWd (k : Nat) : Int32 := if 17 ≤ k ∧ k ≤ 35 then xI (k - 17) else -1
def rSg (k : Nat) : Int32 := [(0 : Int32), 0, 0, 0, 0, 40, 41, 44, 59, 46, 42, 61, 15422, 60, 15421, 62, 15933].getD k 0
def rt (m : x_m) (k s e : Nat) : x_m :=
  (fun a b => if a = 387 then (if b = 7 then xI e else if b = 8 then xI s else if b = 9 then rTk k else if b = 10 then rWd k else if b = 12 then rSg k else m.1 a b) else m.1 a b, m.2)
def rnb (m : x_m) (k : Nat) (v : Int32) : x_m := if k = 2 then x_wS m 387 11 v else m
/-- a fault told -/
def rf (m : x_m) (f p : Int32) : x_m := x_wS (x_wS m 387 5 f) 387 6 p
def rtT (m : x_m) (t : Nat × Nat × Nat × Int32) : x_m :=
  if t.1 = 1 then rf (rt m 1 t.2.1 t.2.1) 1 (xI t.2.1) else if t.1 = 36 then rf (rt m 36 t.2.1 t.2.2.1) 2 (xI t.2.1) else rt (rnb m t.1 t.2.2.2) t.1 t.2.1 t.2.2.1
theorem rt_of {m m' : x_m} {k s e : Nat} (a2 : m'.2 = m.2) (ha : ∀ a b, a ≠ 387 → m'.1 a b = m.1 a b) (h7 : m'.1 387 7 = xI e) (h8 : m'.1 387 8 = xI s) (h9 : m'.1 387 9 = rTk k) (h10 : m'.1 387 10 = rWd k) (h12 : m'.1 387 12 = rSg k)
    (hx : ∀ b, b ≠ 7 → b ≠ 8 → b ≠ 9 → b ≠ 10 → b ≠ 12 → m'.1 387 b = m.1 387 b) : m' = rt m k s e := by
  unfold rt
  refine Prod.ext ?_ a2
  funext a b
  show m'.1 a b = if a = 387 then _ else _
  by_cases h : a = 387
  · subst h
    rw [if_pos rfl]
    by_cases b7 : b = 7
    · subst b7; exact h7
    · by_cases b8 : b = 8
      · subst b8; exact h8
      · by_cases b9 : b = 9
        · subst b9; exact h9
        · by_cases b10 : b = 10
          · subst b10; exact h10
          · by_cases b12 : b = 12
            · subst b12; exact h12
            · rw [if_neg b7, if_neg b8, if_neg b9, if_neg b10, if_neg b12]; exact hx b b7 b8 b9 b10 b12
  · rw [if_neg h]; exact ha a b h
theorem rt_rt (m : x_m) (k s e k' s' e' : Nat) : rt (rt m k s e) k' s' e' = rt m k' s' e' := by
  refine rt_of rfl ?_ rfl rfl rfl rfl rfl ?_
  · intro a b ha; simp [rt, ha]
  · intro b h7 h8 h9 h10 h12; simp [rt, h7, h8, h9, h10, h12]
theorem rt_nb (m : x_m) (k s e k' : Nat) (v : Int32) (s' e' : Nat) : rt (rnb (rt m k s e) k' v) k' s' e' = rt (rnb m k' v) k' s' e' := by
  unfold rnb
  by_cases h : k' = 2
  · rw [if_pos h, if_pos h]
    refine rt_of rfl ?_ rfl rfl rfl rfl rfl ?_
    · intro a b ha; simp [rt, x_wS, x_u2, ha]
    · intro b h7 h8 h9 h10 h12; simp [rt, x_wS, x_u2, h7, h8, h9, h10, h12]
  · rw [if_neg h, if_neg h, rt_rt]
theorem rtT_rt (m : x_m) (k s e : Nat) (t : Nat × Nat × Nat × Int32) : rtT (rt m k s e) t = rtT m t := by
  unfold rtT
  rw [rt_rt, rt_rt, rt_nb]
theorem F_MD_want_1 (m : x_m) (a b : Int32) (h : m.1 387 5 = 0) : F_MD_want 1 a b m = some (1, m) := by
  unfold F_MD_want B_MD_want_21 B_MD_want_33
  rw [if_pos h, if_neg (by decide), if_pos h]
  rfl
theorem F_MD_want_0 (m : x_m) (a b : Int32) (h : m.1 387 5 = 0) (ha : a ≠ 0) : F_MD_want 0 a b m = some (0, rf m a b) := by
  unfold F_MD_want B_MD_want_21 B_MD_want_33
  rw [if_pos h, if_pos rfl, if_neg (show ¬ (x_wS (x_wS m 387 5 a) 387 6 b).1 387 5 = 0 from ha)]
  rfl
theorem F_MD_want_f (m : x_m) (c a b : Int32) (h : m.1 387 5 ≠ 0) : F_MD_want c a b m = some (0, m) := by
  unfold F_MD_want B_MD_want_21 B_MD_want_33
  rw [if_neg h, if_neg h]
  rfl
theorem p_rskip : ∀ (k i f n : Nat) (m : x_m), i + k = n → k < f → n ≤ 20000 → m.1 387 4 = xI n → m.1 387 7 = xI i → (∀ j, isB (m.2.1 388 j)) → B_MD_read_8 f m = B_MD_read_84 (x_wS m 387 7 (xI (spn isBl (m.2.1 388) k i))) := by
  intro k
  induction k with
  | zero =>
    intro i f n m hi hf hn h1 h3 hb
    cases f with
    | zero => omega
    | succ f =>
      rw [B_MD_read_8, h1, h3, if_pos (by rw [xI_le (by omega) (by omega)]; omega)]
      rw [show spn isBl (m.2.1 388) 0 i = i from rfl, xw_S0 h3]
  | succ k ih =>
    intro i f n m hi hf hn h1 h3 hb
    cases f with
    | zero => omega
    | succ f =>
      rw [B_MD_read_8, h1, h3, if_neg (by rw [xI_le (by omega) (by omega)]; omega)]
      have lk : F_MD_look (xI i) m = some (m.2.1 388 i &&& 255, m) := by rw [F_MD_look_eq (by omega) hn h1, if_pos (by omega)]
      simp only [lk, Option.bind_some, h3]
      rw [bl_step, isB_bl (hb i), spn_s]
      by_cases w : isBl (m.2.1 388 i) = true
      · rw [if_pos w, if_pos w]
        unfold B_MD_read_71
        rw [h3, xI_add1, ih (i + 1) f n (x_wS m 387 7 (xI (i + 1))) (by omega) (by omega) hn h1 rfl hb, xw_SS]
        rfl
      · rw [if_neg w, if_neg w, xw_S0 h3]
theorem p_rword : ∀ (k i f n : Nat) (m : x_m), i + k = n → k < f → n ≤ 20000 → m.1 387 4 = xI n → m.1 387 7 = xI i → (∀ j, isB (m.2.1 388 j)) → B_MD_read_137 f m = B_MD_read_202 (x_wS m 387 7 (xI (spn isWd (m.2.1 388) k i))) := by
  intro k
  induction k with
  | zero =>
    intro i f n m hi hf hn h1 h3 hb
    cases f with
    | zero => omega
    | succ f =>
      rw [B_MD_read_137, h1, h3, if_pos (by rw [xI_le (by omega) (by omega)]; omega)]
      rw [show spn isWd (m.2.1 388) 0 i = i from rfl, xw_S0 h3]
  | succ k ih =>
    intro i f n m hi hf hn h1 h3 hb
    cases f with
    | zero => omega
    | succ f =>
      rw [B_MD_read_137, h1, h3, if_neg (by rw [xI_le (by omega) (by omega)]; omega)]
      have lk : F_MD_look (xI i) m = some (m.2.1 388 i &&& 255, m) := by rw [F_MD_look_eq (by omega) hn h1, if_pos (by omega)]
      simp only [lk, Option.bind_some, h3, F_MD_isLetter_eq, F_MD_isDigit_eq, bI_0, isB_let (hb i), isB_dig (hb i)]
      have h95 : (m.2.1 388 i &&& 255 = 95) = (m.2.1 388 i = 95) := isB_eq 95 (hb i) (by omega)
      simp only [h95]
      have st : ∀ (A B : Option x_m), (if isLet (m.2.1 388 i) = false then (if isDig (m.2.1 388 i) = false then (if m.2.1 388 i = 95 then A else B) else A) else A) = if isWd (m.2.1 388 i) = true then A else B := by
        intro A B
        unfold isWd
        cases isLet (m.2.1 388 i) <;> cases isDig (m.2.1 388 i) <;> by_cases h : m.2.1 388 i = 95 <;> simp [h]
      rw [st, spn_s]
      by_cases w : isWd (m.2.1 388 i) = true
      · rw [if_pos w, if_pos w]
        unfold B_MD_read_189
        rw [h3, xI_add1, ih (i + 1) f n (x_wS m 387 7 (xI (i + 1))) (by omega) (by omega) hn h1 rfl hb, xw_SS]
        rfl
      · rw [if_neg w, if_neg w, xw_S0 h3]
/-- the reference's row of digits -/
def cR (b : Nat → Int32) : Nat → Nat → Nat → Nat
  | 0, _, a => a
  | k + 1, i, a => cR b k (i + 1) (if a ≤ 3000000000 then a * 10 + ((b i).toNatClampNeg - 48) else a)
theorem cR_le (b : Nat → Int32) : ∀ k i a, (∀ j, i ≤ j → j < i + k → (b j).toNatClampNeg ≤ 57) → a ≤ 30000000009 → cR b k i a ≤ 30000000009
  | 0, _, _, _, h => h
  | k + 1, i, a, hb, h => by
    refine cR_le b k (i + 1) _ (fun j h1 h2 => hb j (by omega) (by omega)) ?_
    have := hb i (Nat.le_refl i) (by omega)
    by_cases e : a ≤ 3000000000
    · rw [if_pos e]; omega
    · rw [if_neg e]; exact h
theorem cR_cN (b : Nat → Int32) : ∀ k i a a', ((a = a' ∧ a ≤ 2147483648) ∨ (2147483648 < a ∧ 2147483648 < a')) → ((cN b k i a = cR b k i a' ∧ cN b k i a ≤ 2147483648) ∨ (2147483648 < cN b k i a ∧ 2147483648 < cR b k i a'))
  | 0, _, _, _, h => h
  | k + 1, i, a, a', h => by
    refine cR_cN b k (i + 1) _ _ ?_
    generalize (b i).toNatClampNeg - 48 = d
    rcases h with ⟨h1, h2⟩ | ⟨h1, h2⟩
    · subst h1
      rw [if_pos h2, if_pos (by omega)]
      omega
    · rw [if_neg (by omega)]
      by_cases e : a' ≤ 3000000000
      · rw [if_pos e]; omega
      · rw [if_neg e]; omega
theorem p_rnum : ∀ (k i f n a : Nat) (l1 : Int32) (m : x_m), i + k = n → k < f → n ≤ 20000 → m.1 387 4 = xI n → m.1 387 7 = xI i → (∀ j, isB (m.2.1 388 j)) → a ≤ 30000000009 →
    B_MD_readNumber_25 f l1 (jI a) m = B_MD_readNumber_95 l1 (jI (cR (m.2.1 388) (spn isDig (m.2.1 388) k i - i) i a : Nat)) (x_wS m 387 7 (xI (spn isDig (m.2.1 388) k i))) := by
  intro k
  induction k with
  | zero =>
    intro i f n a l1 m hi hf hn h1 h3 hb ha
    cases f with
    | zero => omega
    | succ f =>
      rw [B_MD_readNumber_25, h1, h3, if_pos (by rw [xI_le (by omega) (by omega)]; omega)]
      rw [show spn isDig (m.2.1 388) 0 i = i from rfl, xw_S0 h3, Nat.sub_self]
      rfl
  | succ k ih =>
    intro i f n a l1 m hi hf hn h1 h3 hb ha
    cases f with
    | zero => omega
    | succ f =>
      rw [B_MD_readNumber_25, h1, h3, if_neg (by rw [xI_le (by omega) (by omega)]; omega)]
      have lk : F_MD_look (xI i) m = some (m.2.1 388 i &&& 255, m) := by rw [F_MD_look_eq (by omega) hn h1, if_pos (by omega)]
      simp only [lk, Option.bind_some, h3, F_MD_isDigit_eq, bI_0, isB_dig (hb i)]
      rw [spn_s]
      by_cases w : isDig (m.2.1 388 i) = true
      · have hg := spn_ge isDig (m.2.1 388) k (i + 1)
        obtain ⟨c, hc1, hc2, hc3, hc4⟩ := isB_digv (hb i) w
        rw [if_neg (by rw [w]; decide), if_pos w]
        rw [show spn isDig (m.2.1 388) k (i + 1) - i = (spn isDig (m.2.1 388) k (i + 1) - (i + 1)) + 1 by omega]
        show _ = B_MD_readNumber_95 l1 (jI (cR (m.2.1 388) (spn isDig (m.2.1 388) k (i + 1) - (i + 1)) (i + 1) (if a ≤ 3000000000 then a * 10 + ((m.2.1 388 i).toNatClampNeg - 48) else a) : Nat)) _
        have step : ∀ a' : Nat, a' ≤ 30000000009 → B_MD_readNumber_81 (B_MD_readNumber_25 f) l1 (jI a') m = B_MD_readNumber_95 l1 (jI (cR (m.2.1 388) (spn isDig (m.2.1 388) k (i + 1) - (i + 1)) (i + 1) a' : Nat)) (x_wS m 387 7 (xI (spn isDig (m.2.1 388) k (i + 1)))) := by
          intro a' ha'
          unfold B_MD_readNumber_81
          rw [h3, xI_add1, ih (i + 1) f n a' l1 (x_wS m 387 7 (xI (i + 1))) (by omega) (by omega) hn h1 rfl hb ha', xw_SS]
          rfl
        have hgt : (lg_cmp (jI a) 3000000000 ≤ 0) = (a ≤ 3000000000) := by
          rw [y_cmp_le]
          show (jI a ≤ jI 3000000000) = _
          rw [jI_le (by omega) (by omega) (by omega) (by omega)]
          apply propext; omega
        simp only [hgt, hc4]
        rw [hc3, xI_cl (by omega), xI_long (by omega)]
        by_cases hl : a ≤ 3000000000
        · rw [if_pos hl, if_pos hl]
          have e2 : 10 * jI (a : Int) + jI (c : Int) - 48 = jI ((a * 10 + (c - 48) : Nat) : Int) := by
            show Int64.ofInt 10 * Int64.ofInt _ + Int64.ofInt _ - Int64.ofInt 48 = Int64.ofInt _
            rw [← Int64.ofInt_mul, ← Int64.ofInt_add, ← Int64.ofInt_sub]
            congr 1
            omega
          rw [e2]
          exact step _ (by omega)
        · rw [if_neg hl, if_neg hl]
          exact step a ha
      · rw [if_pos (by simpa using w), if_neg w, xw_S0 h3, Nat.sub_self]
        rfl
/-! the reference's reserved words -/
def rs (i : Nat) : Int32 := x_rs.getD i 0
theorem x_ch_xI {i : Nat} (h : i < 2147483648) : x_ch (xI i) = rs i := by unfold x_ch rs; rw [xI_cl h]
def rpos : List Nat := [0, 10, 18, 25, 32, 38, 44, 47, 54, 59, 68, 72, 78, 82, 86, 90, 93, 97, 105, 108]
theorem rpos_ok : ∀ n, n < 19 → rpos.getD n 0 + 1 + (spl.getD (17 + n) []).length = rpos.getD (n + 1) 0 ∧ rpos.getD (n + 1) 0 ≤ 108 ∧ rs (rpos.getD (n + 1) 0) = 32 ∧ (∀ i, i < (spl.getD (17 + n) []).length → rs (rpos.getD n 0 + 1 + i) = xI ((spl.getD (17 + n) []).getD i 0) ∧ rs (rpos.getD n 0 + 1 + i) ≠ 32) ∧ (spl.getD (17 + n) []).length ≤ 9 := by decide +kernel
theorem p_r92 (K : Int32 → Int32 → x_m → Option (Int32 × x_m)) (l1 : Int32) (m : x_m) : ∀ (d p f : Nat), d < f → p + d < 109 → (∀ i, i < d → rs (p + i) ≠ 32) → rs (p + d) = 32 → B_MD_wordOf_92 K f l1 (xI p) m = K (l1 + 1) (xI (p + d)) m := by
  intro d
  induction d with
  | zero =>
    intro p f hf hp h1 h2
    cases f with
    | zero => omega
    | succ f =>
      rw [B_MD_wordOf_92, xI_ix (by omega), if_pos (by simp; omega), x_ch_xI (by omega), if_pos (show rs p = 32 from h2)]
      rfl
  | succ d ih =>
    intro p f hf hp h1 h2
    cases f with
    | zero => omega
    | succ f =>
      rw [B_MD_wordOf_92, xI_ix (by omega), if_pos (by simp; omega), x_ch_xI (by omega), if_neg (show ¬ rs p = 32 from h1 0 (by omega)), xI_add1]
      rw [ih (p + 1) f (by omega) (by omega) (fun i hi => by have := h1 (i + 1) (by omega); rwa [show p + (i + 1) = p + 1 + i by omega] at this) (by rwa [show p + (d + 1) = p + 1 + d by omega] at h2)]
      rw [show p + 1 + d = p + (d + 1) by omega]
/-- one word of the text against the word behind p -/
theorem p_r17 (K : Int32 → Int32 → x_m → Option (Int32 × x_m)) (l1 : Int32) (m : x_m) (n s e p : Nat) (hn : n ≤ 20000) (hse : s < e) (hen : e ≤ n) (h4 : m.1 387 4 = xI n) (h7 : m.1 387 7 = xI e) (h8 : m.1 387 8 = xI s) (hb : ∀ j, isB (m.2.1 388 j)) (hw : ∀ j, s ≤ j → j < e → isWd (m.2.1 388 j) = true) (hp : p + 1 ≤ 108) :
    ∀ (d j f : Nat), j + d = e - s → d < f → p + 1 + j ≤ 108 → (∀ i, i < j → rs (p + 1 + i) = m.2.1 388 (s + i)) →
      B_MD_wordOf_17 K f l1 (xI p) (xI j) m = if (∀ i, i < e - s → rs (p + 1 + i) = m.2.1 388 (s + i)) ∧ rs (p + 1 + (e - s)) = 32 then some (l1, m) else B_MD_wordOf_89 K l1 (xI p) m := by
  intro d
  induction d with
  | zero =>
    intro j f hj hf hpj hm
    cases f with
    | zero => omega
    | succ f =>
      have ej : j = e - s := by omega
      rw [B_MD_wordOf_17, h7, h8, xI_add, if_pos (by rw [xI_le (by omega) (by omega)]; omega)]
      unfold B_MD_wordOf_59
      rw [h7, h8, xI_add, if_pos (by rw [show s + j = e by omega]), xI_add1, xI_add, xI_ix (by omega), if_pos (by simp; omega), x_ch_xI (by omega)]
      subst ej
      by_cases h : rs (p + 1 + (e - s)) = 32
      · rw [if_pos h, if_pos ⟨hm, h⟩]
      · rw [if_neg h, if_neg (fun z => h z.2)]
  | succ d ih =>
    intro j f hj hf hpj hm
    cases f with
    | zero => omega
    | succ f =>
      rw [B_MD_wordOf_17, h7, h8, xI_add, if_neg (by rw [xI_le (by omega) (by omega)]; omega), xI_add1, xI_add, xI_ix (by omega), if_pos (by simp; omega), x_ch_xI (by omega)]
      have w := hw (s + j) (by omega) (by omega)
      obtain ⟨c, c1, c2, c3, c4⟩ := isB_wd (hb (s + j)) w
      have lk : F_MD_look (xI (s + j)) m = some (m.2.1 388 (s + j), m) := by rw [F_MD_look_eq (by omega) hn h4, if_pos (by omega), c4]
      rw [lk]
      show (if rs (p + 1 + j) = m.2.1 388 (s + j) then _ else _) = _
      by_cases h : rs (p + 1 + j) = m.2.1 388 (s + j)
      · rw [if_pos h, xI_add1]
        refine ih (j + 1) f (by omega) (by omega) ?_ ?_
        · refine Nat.le_of_not_lt (fun z => ?_)
          have h108 : p + 1 + j = 108 := by omega
          rw [h108, c3] at h
          have : (32 : Int32) = xI c := h
          rw [show (32 : Int32) = xI 32 from rfl, xI_eq (by omega) (by omega)] at this
          omega
        · intro i hi
          by_cases e' : i = j
          · rw [e']; exact h
          · exact hm i (by omega)
      · rw [if_neg h, if_neg (fun z => h (z.1 j (by omega)))]
        unfold B_MD_wordOf_59
        rw [h7, h8, xI_add, if_neg (by rw [xI_eq (by omega) (by omega)]; omega)]
theorem list_ext_getD {l r : List Nat} (h : l.length = r.length) (hh : ∀ i, i < l.length → l.getD i 0 = r.getD i 0) : l = r := by
  apply List.ext_getElem h
  intro i h1 h2
  have := hh i h1
  rwa [List.getD_eq_getElem?_getD, List.getD_eq_getElem?_getD, List.getElem?_eq_getElem h1, List.getElem?_eq_getElem h2] at this
theorem rmatch {b : Nat → Int32} {s e n : Nat} (hn : n < 19) (hse : s < e) (hw : ∀ j, s ≤ j → j < e → ∃ c, 32 < c ∧ c < 128 ∧ b j = xI c) :
    ((∀ i, i < e - s → rs (rpos.getD n 0 + 1 + i) = b (s + i)) ∧ rs (rpos.getD n 0 + 1 + (e - s)) = 32) ↔ spl.getD (17 + n) [] = wls b (e - s) s := by
  obtain ⟨p1, p2, p3, p4, p5⟩ := rpos_ok n hn
  have hlen := wls_len b (e - s) s
  constructor
  · intro ⟨h1, h2⟩
    have hl : (spl.getD (17 + n) []).length = e - s := by
      rcases Nat.lt_trichotomy (spl.getD (17 + n) []).length (e - s) with z | z | z
      · exfalso
        have := h1 _ z
        rw [p1, p3] at this
        obtain ⟨c, c1, c2, c3⟩ := hw (s + (spl.getD (17 + n) []).length) (by omega) (by omega)
        rw [c3, show (32 : Int32) = xI 32 from rfl, xI_eq (by omega) (by omega)] at this
        omega
      · exact z
      · exact absurd h2 (p4 _ z).2
    refine list_ext_getD (by rw [hlen, hl]) (fun i hi => ?_)
    rw [hl] at hi
    have a1 := h1 i hi
    rw [(p4 i (by omega)).1] at a1
    rw [wls_get b (e - s) s i hi, ← a1, xI_cl]
    have : ∀ n, n < 19 → ∀ i, i < 9 → (spl.getD (17 + n) []).getD i 0 < 2147483648 := by decide +kernel
    exact this n hn i (by omega)
  · intro h
    have hl : (spl.getD (17 + n) []).length = e - s := by rw [h, hlen]
    refine ⟨fun i hi => ?_, by rw [← hl, p1]; exact p3⟩
    rw [(p4 i (by omega)).1, h, wls_get b (e - s) s i hi]
    obtain ⟨c, c1, c2, c3⟩ := hw (s + i) (by omega) (by omega)
    rw [c3, xI_cl (by omega)]
theorem p_r4 (m : x_m) (n s e : Nat) (hn : n ≤ 20000) (hse : s < e) (hen : e ≤ n) (h4 : m.1 387 4 = xI n) (h7 : m.1 387 7 = xI e) (h8 : m.1 387 8 = xI s) (hb : ∀ j, isB (m.2.1 388 j)) (hw : ∀ j, s ≤ j → j < e → isWd (m.2.1 388 j) = true) :
    ∀ (d j f : Nat), j + d = 19 → d < f → B_MD_wordOf_4 f (xI j) (xI (rpos.getD j 0)) m = some (rWd (kfr (wls (m.2.1 388) (e - s) s) 3 d (17 + j)), m) := by
  intro d
  induction d with
  | zero =>
    intro j f hj hf
    cases f with
    | zero => omega
    | succ f =>
      have : j = 19 := by omega
      subst this
      rw [B_MD_wordOf_4, if_pos (by decide)]
      rfl
  | succ d ih =>
    intro j f hj hf
    cases f with
    | zero => omega
    | succ f =>
      obtain ⟨p1, p2, p3, p4, p5⟩ := rpos_ok j (by omega)
      rw [B_MD_wordOf_4, xI_add1, if_neg (by show ¬ (xI 109 ≤ _); rw [xI_le (by omega) (by omega)]; omega)]
      rw [show (0 : Int32) = xI 0 from rfl, p_r17 (B_MD_wordOf_4 f) (xI j) m n s e (rpos.getD j 0) hn hse hen h4 h7 h8 hb hw (by omega) (e - s) 0 x_fu (by omega) (by unfold x_fu; omega) (by omega) (fun i hi => absurd hi (by omega))]
      have hm := rmatch (b := m.2.1 388) (n := j) (by omega) hse (fun i h1 h2 => by obtain ⟨c, c1, c2, c3, _⟩ := isB_wd (hb i) (hw i h1 h2); exact ⟨c, c1, c2, c3⟩)
      rw [kfr]
      by_cases h : spl.getD (17 + j) [] = wls (m.2.1 388) (e - s) s
      · rw [if_pos (hm.mpr h), if_pos h]
        unfold rWd
        rw [if_pos (by omega), Nat.add_sub_cancel_left]
      · rw [if_neg (fun z => h (hm.mp z)), if_neg h]
        unfold B_MD_wordOf_89
        rw [xI_add1, p_r92 (B_MD_wordOf_4 f) (xI j) m (spl.getD (17 + j) []).length (rpos.getD j 0 + 1) x_fu (by unfold x_fu; omega) (by omega) (fun i hi => (p4 i hi).2) (by rw [p1]; exact p3)]
        rw [p1, xI_add1, ih (j + 1) f (by omega) (by omega)]
        rfl
theorem kfr_skip (w : List Nat) (d : Nat) : ∀ j k i, (∀ x, i ≤ x → x < i + j → spl.getD x [] ≠ w) → kfr w d (j + k) i = kfr w d k (i + j)
  | 0, k, i, _ => by rw [Nat.zero_add]; rfl
  | j + 1, k, i, h => by
    rw [show j + 1 + k = (j + k) + 1 by omega, kfr, if_neg (h i (Nat.le_refl i) (by omega)), kfr_skip w d j k (i + 1) (fun x h1 h2 => h x (by omega) (by omega))]
    rw [show i + 1 + j = i + (j + 1) by omega]
theorem tokW_rWd {b : Nat → Int32} (hb : ∀ j, isB (b j)) {n s : Nat} (hs : s < n) (hl : isLet (b s) = true) : rWd (kfr (wls b (spn isWd b (n - s) s - s) s) 3 19 17) = rWd (tokW b n s).1 := by
  have hd := wls_wd hb n s
  have hpos : s < spn isWd b (n - s) s := spn_pos hs (let_wd hl)
  have hlen := wls_len b (spn isWd b (n - s) s - s) s
  unfold tokW
  generalize spn isWd b (n - s) s = e at *
  have hne : wls b (e - s) s ≠ [] := by intro z; rw [z] at hlen; simp at hlen; omega
  have h17 : ∀ x, 0 ≤ x → x < 0 + 17 → spl.getD x [] ≠ wls b (e - s) s := by
    intro x _ hx z
    by_cases h5 : x < 5
    · rw [spl_em x h5] at z; exact hne z.symm
    · cases hw : wls b (e - s) s with
      | nil => exact hne hw
      | cons c l =>
        have a1 := spl_wd x (by omega) (by omega) (by omega) c (by rw [z, hw]; exact List.mem_cons_self ..)
        rw [(hd c (by rw [hw]; exact List.mem_cons_self ..)).2.2] at a1
        exact absurd a1 (by decide)
  have hk : kof (wls b (e - s) s) 3 = kfr (wls b (e - s) s) 3 19 17 := kfr_skip _ 3 17 19 0 h17
  show _ = rWd (if 40 < e - s then 4 else if 9 < e - s then 3 else kof (wls b (e - s) s) 3)
  by_cases h9 : 9 < e - s
  · have : kfr (wls b (e - s) s) 3 19 17 = 3 := by
      rcases kfr_le (wls b (e - s) s) 3 19 17 with z | ⟨z1, z2, z3⟩
      · exact z
      · have := spl_len (kfr (wls b (e - s) s) 3 19 17) (by omega)
        rw [z3, hlen] at this
        omega
    rw [this, if_pos h9]
    by_cases h40 : 40 < e - s
    · rw [if_pos h40]; rfl
    · rw [if_neg h40]
  · rw [if_neg h9, if_neg (by omega), hk]

/-- a sign, by its letters, as the reference has it -/
theorem rsgn_tab : (∀ c, c < 256 → (sg c = 40 ∨ sg c = 41 ∨ sg c = 44 ∨ sg c = 59 ∨ sg c = 46 ∨ sg c = 42 ∨ sg c = 61 ∨ sg c = 60 ∨ sg c = 62) → rSg (kof [c] 1) = sg c ∧ kof [c] 1 ≠ 1 ∧ 0 < sg c) ∧ (∀ c, c < 256 → 0 < sg c → ¬ (sg c = 40 ∨ sg c = 41 ∨ sg c = 44 ∨ sg c = 59 ∨ sg c = 46 ∨ sg c = 42 ∨ sg c = 61 ∨ sg c = 60 ∨ sg c = 62) → kof [c] 1 = 1) := by
  constructor <;> decide +kernel
theorem sg_clamp : ∀ c, c < 256 → 0 < sg c → (sg c).toNatClampNeg = c := by decide +kernel
theorem F_MD_readSign_eq {m : x_m} {n s : Nat} (hn : n ≤ 20000) (hs : s < n) (h4 : m.1 387 4 = xI n) (h5 : m.1 387 5 = 0) (h7 : m.1 387 7 = xI s) (h8 : m.1 387 8 = xI s) (h12 : m.1 387 12 = 0) (hb : ∀ j, isB (m.2.1 388 j)) :
    F_MD_readSign (m.2.1 388 s &&& 255) m = some (if (tokS (m.2.1 388) n s).1 = 1 then rf m 1 (xI s) else x_wS (x_wS m 387 12 (rSg (tokS (m.2.1 388) n s).1)) 387 7 (xI (tokS (m.2.1 388) n s).2.2.1)) := by
  unfold F_MD_readSign
  rw [h7, xI_add1, F_MD_look_eq (by omega) hn h4]
  have hy : ∀ l, 0 < l → l < 128 → ((if s + 1 < n then m.2.1 388 (s + 1) &&& 255 else 0) = xI l) = ((if s + 1 < n then m.2.1 388 (s + 1) else 0) = xI l) := by
    intro l _ hl
    by_cases h : s + 1 < n
    · rw [if_pos h, if_pos h, isB_eq l (hb (s + 1)) hl]
    · rw [if_neg h, if_neg h]
  have hx : ∀ l, l < 128 → (m.2.1 388 s &&& 255 = xI l) = (m.2.1 388 s = xI l) := fun l hl => isB_eq l (hb s) hl
  have hy61 := hy 61 (by omega) (by omega)
  have hy62 := hy 62 (by omega) (by omega)
  unfold tokS
  generalize hY : (if s + 1 < n then m.2.1 388 (s + 1) &&& 255 else 0) = y' at *
  generalize hY2 : (if s + 1 < n then m.2.1 388 (s + 1) else 0) = y at *
  show (if m.2.1 388 s &&& 255 = 60 then (if y' = 61 then B_MD_readSign_41 _ y' m else if y' = 62 then B_MD_readSign_41 _ y' m else B_MD_readSign_29 _ y' m) else B_MD_readSign_29 _ y' m) = _
  have hx60 : (m.2.1 388 s &&& 255 = 60) = (m.2.1 388 s = 60) := hx 60 (by omega)
  have hx62 : (m.2.1 388 s &&& 255 = 62) = (m.2.1 388 s = 62) := hx 62 (by omega)
  have hy61' : (y' = 61) = (y = 61) := hy61
  have hy62' : (y' = 62) = (y = 62) := hy62
  unfold B_MD_readSign_29 B_MD_readSign_41 B_MD_readSign_45
  have w1 : ∀ a b, F_MD_want 1 a b m = some (1, m) := fun a b => F_MD_want_1 m a b h5
  have w0 : F_MD_want 0 1 (m.1 387 8) m = some (0, rf m 1 (xI s)) := by rw [F_MD_want_0 m 1 _ h5 (by decide), h8]
  have two : ∀ z w : Int32, m.2.1 388 s = z → y = w → (z = 60 ∧ w = 61) ∨ (z = 60 ∧ w = 62) ∨ (z = 62 ∧ w = 61) → B_MD_readSign_46 (m.2.1 388 s &&& 255) y' 1 m = some (x_wS (x_wS m 387 12 (256 * z + w)) 387 7 (xI (s + 2))) := by
    intro z w e1 e2 h
    have e3 : m.2.1 388 s &&& 255 = z := by rcases h with ⟨h, _⟩ | ⟨h, _⟩ | ⟨h, _⟩ <;> rw [e1, h] <;> rfl
    have e4 : y' = w := by
      rcases h with ⟨_, h⟩ | ⟨_, h⟩ | ⟨_, h⟩
      · rw [h] at e2 ⊢; exact hy61.mpr e2
      · rw [h] at e2 ⊢; exact hy62.mpr e2
      · rw [h] at e2 ⊢; exact hy61.mpr e2
    rw [e3, e4]
    have e5 : B_MD_readSign_101 z w 1 m = some (x_wS (x_wS m 387 12 (256 * z + w)) 387 7 (xI (s + 2))) := by
      unfold B_MD_readSign_101 B_MD_readSign_106
      rw [w1, Option.bind_some, if_neg (show ¬ (1 : Int32) = 0 by decide), if_neg (show ¬ (1 : Int32) = 0 by decide)]
      unfold B_MD_readSign_138 B_MD_readSign_155 B_MD_readSign_159
      rw [if_neg (by decide)]
      show some (x_wS _ 387 7 (m.1 387 7 + 2)) = _
      rw [h7, show xI s + 2 = xI (s + 2) from xI_add s 2]
    unfold B_MD_readSign_46
    rw [e5]
    rcases h with ⟨h, _⟩ | ⟨h, _⟩ | ⟨h, _⟩ <;> subst h <;> rfl
  by_cases hp : (m.2.1 388 s = 60 ∧ (y = 61 ∨ y = 62)) ∨ (m.2.1 388 s = 62 ∧ y = 61)
  · have lhs : (if m.2.1 388 s &&& 255 = 60 then (if y' = 61 then B_MD_readSign_46 (m.2.1 388 s &&& 255) y' 1 m else if y' = 62 then B_MD_readSign_46 (m.2.1 388 s &&& 255) y' 1 m else (if m.2.1 388 s &&& 255 = 62 then (if y' = 61 then B_MD_readSign_46 (m.2.1 388 s &&& 255) y' 1 m else B_MD_readSign_46 (m.2.1 388 s &&& 255) y' 0 m) else B_MD_readSign_46 (m.2.1 388 s &&& 255) y' 0 m)) else (if m.2.1 388 s &&& 255 = 62 then (if y' = 61 then B_MD_readSign_46 (m.2.1 388 s &&& 255) y' 1 m else B_MD_readSign_46 (m.2.1 388 s &&& 255) y' 0 m) else B_MD_readSign_46 (m.2.1 388 s &&& 255) y' 0 m)) = B_MD_readSign_46 (m.2.1 388 s &&& 255) y' 1 m := by
      simp only [hx60, hx62, hy61', hy62']
      rcases hp with ⟨h1, h2 | h2⟩ | ⟨h1, h2⟩
      · rw [if_pos h1, if_pos h2]
      · rw [if_pos h1, if_neg (by rw [h2]; decide), if_pos h2]
      · rw [if_neg (by rw [h1]; decide), if_pos h1, if_pos h2]
    refine lhs.trans ?_
    have e : sgnK (m.2.1 388 s) y = (kof [(m.2.1 388 s).toNatClampNeg, y.toNatClampNeg] 1, 2) := if_pos hp
    rw [e]
    rcases hp with ⟨h1, h2 | h2⟩ | ⟨h1, h2⟩
    · rw [two 60 61 h1 h2 (by simp), h1, h2]; rfl
    · rw [two 60 62 h1 h2 (by simp), h1, h2]; rfl
    · rw [two 62 61 h1 h2 (by simp), h1, h2]; rfl
  · have lhs : (if m.2.1 388 s &&& 255 = 60 then (if y' = 61 then B_MD_readSign_46 (m.2.1 388 s &&& 255) y' 1 m else if y' = 62 then B_MD_readSign_46 (m.2.1 388 s &&& 255) y' 1 m else (if m.2.1 388 s &&& 255 = 62 then (if y' = 61 then B_MD_readSign_46 (m.2.1 388 s &&& 255) y' 1 m else B_MD_readSign_46 (m.2.1 388 s &&& 255) y' 0 m) else B_MD_readSign_46 (m.2.1 388 s &&& 255) y' 0 m)) else (if m.2.1 388 s &&& 255 = 62 then (if y' = 61 then B_MD_readSign_46 (m.2.1 388 s &&& 255) y' 1 m else B_MD_readSign_46 (m.2.1 388 s &&& 255) y' 0 m) else B_MD_readSign_46 (m.2.1 388 s &&& 255) y' 0 m)) = B_MD_readSign_46 (m.2.1 388 s &&& 255) y' 0 m := by
      simp only [hx60, hx62, hy61', hy62']
      by_cases h1 : m.2.1 388 s = 60
      · have n1 : ¬ y = 61 := fun z => hp (Or.inl ⟨h1, Or.inl z⟩)
        have n2 : ¬ y = 62 := fun z => hp (Or.inl ⟨h1, Or.inr z⟩)
        rw [if_pos h1, if_neg n1, if_neg n2, if_neg (by rw [h1]; decide)]
      · rw [if_neg h1]
        by_cases h2 : m.2.1 388 s = 62
        · rw [if_pos h2, if_neg (fun z => hp (Or.inr ⟨h2, z⟩))]
        · rw [if_neg h2]
    refine lhs.trans ?_
    have e : sgnK (m.2.1 388 s) y = (if 0 < m.2.1 388 s then kof [(m.2.1 388 s).toNatClampNeg] 1 else 1, 1) := if_neg hp
    rw [e]
    show _ = some (if (if 0 < m.2.1 388 s then kof [(m.2.1 388 s).toNatClampNeg] 1 else 1) = 1 then _ else x_wS (x_wS m 387 12 (rSg (if 0 < m.2.1 388 s then kof [(m.2.1 388 s).toNatClampNeg] 1 else 1))) 387 7 (xI (s + 1)))
    obtain ⟨c, hc, ec⟩ := hb s
    have yes : B_MD_readSign_101 (m.2.1 388 s &&& 255) y' 0 m = some (x_wS (x_wS m 387 12 (m.2.1 388 s &&& 255)) 387 7 (xI (s + 1))) := by
      unfold B_MD_readSign_101 B_MD_readSign_106
      rw [w1, Option.bind_some, if_neg (show ¬ (1 : Int32) = 0 by decide), if_pos rfl]
      unfold B_MD_readSign_138 B_MD_readSign_155 B_MD_readSign_159
      rw [if_pos rfl]
      show some (x_wS _ 387 7 (m.1 387 7 + 1)) = _
      rw [h7, xI_add1]
    have no : B_MD_readSign_106 (m.2.1 388 s &&& 255) y' 0 0 m = some (rf m 1 (xI s)) := by
      unfold B_MD_readSign_106
      rw [w0]
      rfl
    unfold B_MD_readSign_46
    rw [yes, no]
    simp only [show (m.2.1 388 s &&& 255 = 40) = (m.2.1 388 s = 40) from hx 40 (by omega), show (m.2.1 388 s &&& 255 = 41) = (m.2.1 388 s = 41) from hx 41 (by omega), show (m.2.1 388 s &&& 255 = 44) = (m.2.1 388 s = 44) from hx 44 (by omega), show (m.2.1 388 s &&& 255 = 59) = (m.2.1 388 s = 59) from hx 59 (by omega), show (m.2.1 388 s &&& 255 = 46) = (m.2.1 388 s = 46) from hx 46 (by omega), show (m.2.1 388 s &&& 255 = 42) = (m.2.1 388 s = 42) from hx 42 (by omega), show (m.2.1 388 s &&& 255 = 61) = (m.2.1 388 s = 61) from hx 61 (by omega), hx60, hx62]
    have chain : ∀ (A B : Option x_m), (if m.2.1 388 s = 40 then A else if m.2.1 388 s = 41 then A else if m.2.1 388 s = 44 then A else if m.2.1 388 s = 59 then A else if m.2.1 388 s = 46 then A else if m.2.1 388 s = 42 then A else if m.2.1 388 s = 61 then A else if m.2.1 388 s = 60 then A else if m.2.1 388 s = 62 then A else B) = if (m.2.1 388 s = 40 ∨ m.2.1 388 s = 41 ∨ m.2.1 388 s = 44 ∨ m.2.1 388 s = 59 ∨ m.2.1 388 s = 46 ∨ m.2.1 388 s = 42 ∨ m.2.1 388 s = 61 ∨ m.2.1 388 s = 60 ∨ m.2.1 388 s = 62) then A else B := by
      intro A B
      generalize m.2.1 388 s = x
      repeat' split
      all_goals first | rfl | (exfalso; simp_all; done)
    rw [chain]
    by_cases h : (m.2.1 388 s = 40 ∨ m.2.1 388 s = 41 ∨ m.2.1 388 s = 44 ∨ m.2.1 388 s = 59 ∨ m.2.1 388 s = 46 ∨ m.2.1 388 s = 42 ∨ m.2.1 388 s = 61 ∨ m.2.1 388 s = 60 ∨ m.2.1 388 s = 62)
    · rw [if_pos h]
      rw [ec] at h ⊢
      obtain ⟨t1, t2, t3⟩ := rsgn_tab.1 c hc h
      have hpx : ∀ c, c < 256 → 0 < sg c → sg c &&& 255 = sg c := by decide +kernel
      rw [if_pos t3, sg_clamp c hc t3, if_neg t2, t1, hpx c hc t3]
    · rw [if_neg h]
      rw [ec] at h ⊢
      by_cases h0 : 0 < sg c
      · rw [if_pos h0, sg_clamp c hc h0, if_pos (rsgn_tab.2 c hc h0 h)]
      · rw [if_neg h0, if_pos rfl]
theorem F_MD_read_eq {m : x_m} {n p : Nat} (hn : n ≤ 20000) (hp : p ≤ n) (h4 : m.1 387 4 = xI n) (h5 : m.1 387 5 = 0) (h7 : m.1 387 7 = xI p) (hb : ∀ j, isB (m.2.1 388 j)) :
    F_MD_read m = some (rtT m (lx (m.2.1 388) n p)) := by
  unfold F_MD_read
  rw [h5, if_pos (by decide), p_rskip (n - p) p x_fu n m (by omega) (by unfold x_fu; omega) hn h4 h7 hb]
  have hs1 := spn_ge isBl (m.2.1 388) (n - p) p
  have hs2 := spn_le isBl (m.2.1 388) (n - p) p
  unfold lx
  generalize spn isBl (m.2.1 388) (n - p) p = s at *
  unfold B_MD_read_84
  generalize hm1 : x_wS (x_wS (x_wS (x_wS m 387 7 (xI s)) 387 8 ((x_wS m 387 7 (xI s)).1 387 7)) 387 10 (-1)) 387 12 0 = m1
  have q4 : m1.1 387 4 = xI n := by rw [← hm1]; exact h4
  have q5 : m1.1 387 5 = 0 := by rw [← hm1]; exact h5
  have q7 : m1.1 387 7 = xI s := by rw [← hm1]; rfl
  have q8 : m1.1 387 8 = xI s := by rw [← hm1]; rfl
  have q12 : m1.1 387 12 = 0 := by rw [← hm1]; rfl
  have qm : m1.2 = m.2 := by rw [← hm1]; rfl
  have hb1 : ∀ j, isB (m1.2.1 388 j) := by rw [qm]; exact hb
  rw [q7, F_MD_look_eq (by omega) hn q4]
  show (if m1.1 387 7 = m1.1 387 4 then _ else _) = _
  rw [q7, q4, qm]
  simp only [xI_eq (a := s) (b := n) (by omega) (by omega)]
  unfold lx1
  by_cases hsn : s < n
  · rw [if_neg (by omega), if_pos hsn, if_pos hsn, F_MD_isLetter_eq]
    show (if bI _ = 0 then _ else _) = _
    rw [isB_let (hb s)]
    simp only [bI_0]
    by_cases hl : isLet (m.2.1 388 s) = true
    · rw [if_neg (by rw [hl]; decide), if_pos hl, p_rword (n - s) s x_fu n m1 (by omega) (by unfold x_fu; omega) hn q4 q7 hb1, qm]
      have hpos : s < spn isWd (m.2.1 388) (n - s) s := spn_pos hsn (let_wd hl)
      have hle := spn_le isWd (m.2.1 388) (n - s) s
      unfold B_MD_read_202 F_MD_wordOf
      have wo := p_r4 (x_wS (x_wS m1 387 7 (xI (spn isWd (m.2.1 388) (n - s) s))) 387 9 1) n s (spn isWd (m.2.1 388) (n - s) s) hn hpos (by omega) q4 rfl q8 hb1 (fun j h1 h2 => by
        show isWd (m1.2.1 388 j) = true
        rw [qm]; exact spn_in isWd (m.2.1 388) (n - s) s j h1 h2) 19 0 x_fu (by omega) (by unfold x_fu; omega)
      rw [show B_MD_wordOf_4 x_fu 0 0 (x_wS (x_wS m1 387 7 (xI (spn isWd (m.2.1 388) (n - s) s))) 387 9 1) = _ from wo]
      show some _ = _
      rw [show (x_wS (x_wS m1 387 7 (xI (spn isWd (m.2.1 388) (n - s) s))) 387 9 1).2.1 = m1.2.1 from rfl, qm, tokW_rWd hb hsn hl]
      have hk : (tokW (m.2.1 388) n s).1 = 3 ∨ (tokW (m.2.1 388) n s).1 = 4 ∨ (17 ≤ (tokW (m.2.1 388) n s).1 ∧ (tokW (m.2.1 388) n s).1 ≤ 35) := by
        have hd := wls_wd hb n s
        have hlen := wls_len (m.2.1 388) (spn isWd (m.2.1 388) (n - s) s - s) s
        unfold tokW
        generalize spn isWd (m.2.1 388) (n - s) s = e at *
        show (if 40 < e - s then 4 else if 9 < e - s then 3 else _) = 3 ∨ (if 40 < e - s then 4 else if 9 < e - s then 3 else _) = 4 ∨ (17 ≤ (if 40 < e - s then 4 else if 9 < e - s then 3 else _) ∧ (if 40 < e - s then 4 else if 9 < e - s then 3 else _) ≤ 35)
        by_cases h40 : 40 < e - s
        · rw [if_pos h40]; omega
        · rw [if_neg h40]
          by_cases h9 : 9 < e - s
          · rw [if_pos h9]; omega
          · rw [if_neg h9]
            have := kof3 (wls (m.2.1 388) (e - s) s) (by intro z; rw [z] at hlen; simp at hlen; omega) (fun c h => (hd c h).2.2)
            omega
      unfold rtT
      rw [if_neg (by omega), if_neg (by omega)]
      unfold rnb
      rw [if_neg (by omega)]
      show some _ = some (rt m (tokW (m.2.1 388) n s).1 s (spn isWd (m.2.1 388) (n - s) s))
      generalize (tokW (m.2.1 388) n s).1 = k at *
      generalize spn isWd (m.2.1 388) (n - s) s = e at *
      congr 1
      subst hm1
      refine rt_of rfl ?_ rfl rfl ?_ rfl ?_ ?_
      · intro a b ha; simp [x_wS, x_u2, ha]
      · rw [show rTk k = 1 from by unfold rTk kWb; rw [if_neg (by omega), if_pos (by simp; omega)]]; rfl
      · rw [show rSg k = 0 from by
          rcases hk with h | h | h
          · rw [h]; rfl
          · rw [h]; rfl
          · unfold rSg; rw [List.getD_eq_getElem?_getD, List.getElem?_eq_none (by simp; omega)]; rfl]
        rfl
      · intro b h7 h8 h9 h10 h12; simp [x_wS, x_u2, h7, h8, h9, h10, h12]
    · rw [if_pos (by simpa using hl), if_neg hl, F_MD_isDigit_eq]
      show (if bI _ = 0 then _ else _) = _
      rw [isB_dig (hb s)]
      simp only [bI_0]
      have h45e : (m.2.1 388 s &&& 255 = 45) = (m.2.1 388 s = 45) := isB_eq 45 (hb s) (by omega)
      have num : isNum (m.2.1 388) n s = true → B_MD_read_247 (m.2.1 388 s &&& 255) m1 = some (rtT m (tokN (m.2.1 388) n s)) := by
        intro hnum
        have go : ∀ (neg : Bool) (s1 : Nat), s1 ≤ n → B_MD_readNumber_25 x_fu (bI neg) (jI (0 : Nat)) (x_wS (x_wS m1 387 9 2) 387 7 (xI s1)) = some (rtT m (tokN1 (m.2.1 388) n s s1 neg)) := by
          intro neg s1 a1
          rw [p_rnum (n - s1) s1 x_fu n 0 (bI neg) (x_wS (x_wS m1 387 9 2) 387 7 (xI s1)) (by omega) (by unfold x_fu; omega) hn q4 rfl hb1 (by omega)]
          rw [show (x_wS (x_wS m1 387 9 2) 387 7 (xI s1)).2.1 = m1.2.1 from rfl, qm]
          have hc : cR (m.2.1 388) (spn isDig (m.2.1 388) (n - s1) s1 - s1) s1 0 ≤ 30000000009 := by
            refine cR_le _ _ _ _ (fun j h1 h2 => ?_) (by omega)
            have hg := spn_ge isDig (m.2.1 388) (n - s1) s1
            obtain ⟨c, h48, h57, e, _⟩ := isB_digv (hb j) (spn_in isDig (m.2.1 388) (n - s1) s1 j h1 (by omega))
            rw [e, xI_cl (by omega)]; exact h57
          have hr := cR_cN (m.2.1 388) (spn isDig (m.2.1 388) (n - s1) s1 - s1) s1 0 0 (Or.inl ⟨rfl, by omega⟩)
          unfold tokN1
          generalize cR (m.2.1 388) (spn isDig (m.2.1 388) (n - s1) s1 - s1) s1 0 = a at *
          generalize cN (m.2.1 388) (spn isDig (m.2.1 388) (n - s1) s1 - s1) s1 0 = a' at *
          generalize spn isDig (m.2.1 388) (n - s1) s1 = e at *
          have e1 : B_MD_readNumber_95 (bI neg) (jI a) (x_wS (x_wS (x_wS m1 387 9 2) 387 7 (xI s1)) 387 7 (xI e)) = B_MD_readNumber_105 (numJ neg a) (x_wS (x_wS m1 387 9 2) 387 7 (xI e)) := by
            rw [xw_SS]
            unfold B_MD_readNumber_95
            cases neg
            · rfl
            · show (if (1 : Int32) = 0 then _ else B_MD_readNumber_105 (-jI a) _) = _
              rw [if_neg (by decide)]
              show B_MD_readNumber_105 (-Int64.ofInt _) _ = B_MD_readNumber_105 (Int64.ofInt (-_)) _
              rw [Int64.neg_ofInt]
          rw [e1]
          have ok : ∀ m2 : x_m, B_MD_readNumber_105 (numJ neg a) m2 = if numOk neg a = true then B_MD_readNumber_128 (numJ neg a) 1 m2 else B_MD_readNumber_128 (numJ neg a) 0 m2 := by
            intro m2
            unfold B_MD_readNumber_105 B_MD_readNumber_127
            rw [show (-2147483648 : Int64) = jI (-2147483648) from rfl, show (2147483647 : Int64) = jI 2147483647 from rfl]
            simp only [y_cmp_lt, y_cmp_gt]
            cases neg
            · show (if jI a < jI (-2147483648) then _ else if jI 2147483647 < jI a then _ else _) = if decide (a ≤ 2147483647) = true then _ else _
              simp only [jI_lt (a := (a : Int)) (b := -2147483648) (by omega) (by omega) (by omega) (by omega), jI_lt (a := 2147483647) (b := (a : Int)) (by omega) (by omega) (by omega) (by omega), decide_eq_true_eq]
              rw [if_neg (by omega)]
              by_cases h : a ≤ 2147483647
              · rw [if_neg (by omega), if_pos h]
              · rw [if_pos (by omega), if_neg h]
            · show (if jI (-(a : Int)) < jI (-2147483648) then _ else if jI 2147483647 < jI (-(a : Int)) then _ else _) = if decide (a ≤ 2147483648) = true then _ else _
              simp only [jI_lt (a := -(a : Int)) (b := -2147483648) (by omega) (by omega) (by omega) (by omega), jI_lt (a := 2147483647) (b := -(a : Int)) (by omega) (by omega) (by omega) (by omega), decide_eq_true_eq]
              by_cases h : a ≤ 2147483648
              · rw [if_neg (by omega), if_neg (by omega), if_pos h]
              · rw [if_pos (by omega), if_neg h]
          rw [ok]
          have hok : numOk neg a' = numOk neg a ∧ (numOk neg a = true → a' = a) := by
            unfold numOk
            rcases hr with ⟨r1, r2⟩ | ⟨r1, r2⟩
            · rw [r1]; exact ⟨rfl, fun _ => rfl⟩
            · cases neg
              · show decide (a' ≤ 2147483647) = decide (a ≤ 2147483647) ∧ (decide (a ≤ 2147483647) = true → a' = a)
                rw [decide_eq_false (show ¬ a' ≤ 2147483647 by omega), decide_eq_false (show ¬ a ≤ 2147483647 by omega)]
                exact ⟨rfl, fun z => absurd z (by decide)⟩
              · show decide (a' ≤ 2147483648) = decide (a ≤ 2147483648) ∧ (decide (a ≤ 2147483648) = true → a' = a)
                rw [decide_eq_false (show ¬ a' ≤ 2147483648 by omega), decide_eq_false (show ¬ a ≤ 2147483648 by omega)]
                exact ⟨rfl, fun z => absurd z (by decide)⟩
          rw [hok.1]
          unfold B_MD_readNumber_128 B_MD_readNumber_145
          by_cases ho : numOk neg a = true
          · rw [if_pos ho, if_pos ho, F_MD_want_1 _ _ _ (show (x_wS (x_wS m1 387 9 2) 387 7 (xI e)).1 387 5 = 0 from q5), Option.bind_some, if_neg (show ¬ (1 : Int32) = 0 by decide), hok.2 ho]
            show some _ = some (rt (x_wS m 387 11 _) 2 s e)
            congr 1
            subst hm1
            refine rt_of rfl ?_ rfl rfl rfl rfl rfl ?_
            · intro a b ha; simp [x_wS, x_u2, ha]
            · intro b h7 h8 h9 h10 h12; simp [x_wS, x_u2, h7, h8, h9, h10, h12]
          · rw [if_neg ho, if_neg ho, F_MD_want_0 _ _ _ (show (x_wS (x_wS m1 387 9 2) 387 7 (xI e)).1 387 5 = 0 from q5) (by decide), Option.bind_some, if_pos rfl]
            show some (rf _ 2 (m1.1 387 8)) = some (rf (rt m 36 s e) 2 (xI s))
            rw [q8]
            congr 2
            subst hm1
            refine rt_of rfl ?_ rfl rfl rfl rfl rfl ?_
            · intro a b ha; simp [x_wS, x_u2, ha]
            · intro b h7 h8 h9 h10 h12; simp [x_wS, x_u2, h7, h8, h9, h10, h12]
        unfold B_MD_read_247 B_MD_read_259 F_MD_readNumber B_MD_read_275
        simp only [h45e]
        unfold tokN B_MD_readNumber_19
        by_cases h45 : m.2.1 388 s = 45
        · have hs1n : s + 1 < n := by
            rcases (isNum_iff _ _ _).mp hnum with z | z
            · rw [h45] at z; exact absurd z (by decide)
            · exact z.2.1
          rw [if_pos h45, if_pos h45, decide_eq_true h45, if_neg (show ¬ (1 : Int32) = 0 by decide)]
          rw [show (x_wS m1 387 9 2).1 387 7 = xI s from q7, xI_add1]
          have := go true (s + 1) (by omega)
          rw [show bI true = 1 from rfl, show jI ((0 : Nat) : Int) = 0 from rfl] at this
          rw [this]
          rfl
        · rw [if_neg h45, if_neg h45, decide_eq_false h45, if_pos trivial]
          rw [show (x_wS m1 387 9 2).1 387 7 = xI s from q7, show xI s + 0 = xI s from xI_add s 0]
          have := go false s (by omega)
          rw [show bI false = 0 from rfl, show jI ((0 : Nat) : Int) = 0 from rfl] at this
          rw [this]
          rfl
      have sgn : B_MD_read_265 (m.2.1 388 s &&& 255) m1 = some (rtT m (tokS (m.2.1 388) n s)) := by
        unfold B_MD_read_265 B_MD_read_275
        have := F_MD_readSign_eq (m := x_wS m1 387 9 3) hn hsn q4 q5 q7 q8 q12 hb1
        rw [show (x_wS m1 387 9 3).2.1 = m1.2.1 from rfl, qm] at this
        rw [this, Option.bind_some]
        have hk := sgnK_k (m.2.1 388 s) (if s + 1 < n then m.2.1 388 (s + 1) else 0)
        unfold rtT
        unfold tokS
        generalize sgnK (m.2.1 388 s) (if s + 1 < n then m.2.1 388 (s + 1) else 0) = r at *
        by_cases h1 : r.1 = 1
        · rw [if_pos h1, if_pos h1]
          show some (rf _ 1 _) = some (rf (rt m 1 s s) 1 _)
          congr 2
          subst hm1
          refine rt_of rfl ?_ rfl rfl rfl rfl rfl ?_
          · intro a b ha; simp [x_wS, x_u2, ha]
          · intro b h7 h8 h9 h10 h12; simp [x_wS, x_u2, h7, h8, h9, h10, h12]
        · rw [if_neg h1, if_neg h1, if_neg (show ¬ r.1 = 36 by omega)]
          unfold rnb
          rw [if_neg (show ¬ r.1 = 2 by omega)]
          show some _ = some (rt m r.1 s (s + r.2))
          congr 1
          subst hm1
          refine rt_of rfl ?_ rfl rfl ?_ ?_ rfl ?_
          · intro a b ha; simp [x_wS, x_u2, ha]
          · rw [show rTk r.1 = 3 from by unfold rTk kWb kNu; rw [if_neg (by omega), if_neg (by simp; omega), if_neg (by simp; omega)]]; rfl
          · rw [show rWd r.1 = -1 from by unfold rWd; rw [if_neg (by omega)]]; rfl
          · intro b h7 h8 h9 h10 h12; simp [x_wS, x_u2, h7, h8, h9, h10, h12]
      simp only [h45e]
      by_cases hd : isDig (m.2.1 388 s) = true
      · have hN : isNum (m.2.1 388) n s = true := (isNum_iff _ _ _).mpr (Or.inl hd)
        rw [if_neg (by rw [hd]; decide), if_pos hN]
        exact num hN
      · have hd' : isDig (m.2.1 388 s) = false := by simpa using hd
        rw [if_pos hd']
        by_cases h45 : m.2.1 388 s = 45
        · rw [if_pos h45, q7, xI_add1, F_MD_look_eq (by omega) hn q4, qm]
          simp only [Option.bind_some, F_MD_isDigit_eq, bI_0]
          have hdd : isDig (if s + 1 < n then m.2.1 388 (s + 1) &&& 255 else 0) = (decide (s + 1 < n) && isDig (m.2.1 388 (s + 1))) := by
            by_cases h : s + 1 < n
            · rw [if_pos h, isB_dig (hb (s + 1)), decide_eq_true h, Bool.true_and]
            · rw [if_neg h, decide_eq_false h, Bool.false_and]; rfl
          rw [hdd]
          by_cases h2 : s + 1 < n ∧ isDig (m.2.1 388 (s + 1)) = true
          · have hN : isNum (m.2.1 388) n s = true := (isNum_iff _ _ _).mpr (Or.inr ⟨h45, h2⟩)
            rw [if_neg (by simp [h2.1, h2.2]), if_pos hN]
            exact num hN
          · rw [if_pos (by simp; intro z; by_cases y : isDig (m.2.1 388 (s + 1)) = true; exact absurd ⟨z, y⟩ h2; simpa using y), if_neg (fun z => by rcases (isNum_iff _ _ _).mp z with z | z; exact hd z; exact h2 z.2)]
            exact sgn
        · rw [if_neg h45, if_neg (fun z => by rcases (isNum_iff _ _ _).mp z with z | z; exact hd z; exact h45 z.1)]
          exact sgn
  · have : s = n := by omega
    rw [if_pos this, if_neg hsn]
    unfold B_MD_read_275
    show some _ = some (rt m 0 s s)
    congr 1
    subst hm1
    refine rt_of rfl ?_ rfl rfl rfl rfl rfl ?_
    · intro a b ha; simp [x_wS, x_u2, ha]
    · intro b h7 h8 h9 h10 h12; simp [x_wS, x_u2, h7, h8, h9, h10, h12]
