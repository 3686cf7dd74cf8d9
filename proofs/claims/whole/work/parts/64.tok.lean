/-! tokens: where they lie, what class and reference make of them -/
theorem lx_ok {b : Nat → Int32} (hb : ∀ j, isB (b j)) {n p : Nat} (hp : p ≤ n) : p ≤ (lx b n p).2.1 ∧ (lx b n p).2.1 ≤ (lx b n p).2.2.1 ∧ (lx b n p).2.2.1 ≤ n ∧ ((lx b n p).1 ≠ 0 → p < (lx b n p).2.2.1 ∧ (lx b n p).2.1 < (lx b n p).2.2.1) ∧ (lx b n p).1 ≤ 36 ∧ ((lx b n p).1 = 3 → (lx b n p).2.2.1 - (lx b n p).2.1 ≤ 40) ∧ ((lx b n p).1 = 4 → 40 < (lx b n p).2.2.1 - (lx b n p).2.1) := by
  have hs1 := spn_ge isBl b (n - p) p
  have hs2 := spn_le isBl b (n - p) p
  unfold lx lx1
  generalize spn isBl b (n - p) p = s at *
  by_cases hsn : s < n
  · rw [if_pos hsn]
    by_cases hl : isLet (b s) = true
    · rw [if_pos hl]
      have hpos : s < spn isWd b (n - s) s := spn_pos hsn (let_wd hl)
      have hle := spn_le isWd b (n - s) s
      have hd := wls_wd hb n s
      have hlen := wls_len b (spn isWd b (n - s) s - s) s
      unfold tokW
      generalize spn isWd b (n - s) s = e at *
      have hk3 := kof3 (wls b (e - s) s) (by intro z; rw [z] at hlen; simp at hlen; omega) (fun c h => (hd c h).2.2)
      refine ⟨hs1, by show s ≤ e; omega, by show e ≤ n; omega, fun _ => ⟨by show p < e; omega, hpos⟩, ?_, ?_, ?_⟩
      · show (if 40 < e - s then 4 else if 9 < e - s then 3 else _) ≤ 36
        by_cases h40 : 40 < e - s
        · rw [if_pos h40]; omega
        · rw [if_neg h40]
          by_cases h9 : 9 < e - s
          · rw [if_pos h9]; omega
          · rw [if_neg h9]; omega
      · show (if 40 < e - s then 4 else if 9 < e - s then 3 else _) = 3 → e - s ≤ 40
        intro h
        by_cases h40 : 40 < e - s
        · rw [if_pos h40] at h; omega
        · omega
      · show (if 40 < e - s then 4 else if 9 < e - s then 3 else _) = 4 → 40 < e - s
        intro h
        by_cases h40 : 40 < e - s
        · exact h40
        · rw [if_neg h40] at h
          by_cases h9 : 9 < e - s
          · rw [if_pos h9] at h; omega
          · rw [if_neg h9] at h; omega
    · rw [if_neg hl]
      by_cases hN : isNum b n s = true
      · rw [if_pos hN]
        have hs1n : b s = 45 → s + 1 < n := by
          intro h45
          rcases (isNum_iff _ _ _).mp hN with z | z
          · rw [h45] at z; exact absurd z (by decide)
          · exact z.2.1
        have hdig : isDig (b (if b s = 45 then s + 1 else s)) = true := by
          rcases (isNum_iff _ _ _).mp hN with z | z
          · rw [if_neg (by intro h; rw [h] at z; exact absurd z (by decide))]; exact z
          · rw [if_pos z.1]; exact z.2.2
        have hlt : (if b s = 45 then s + 1 else s) < n := by
          by_cases h45 : b s = 45
          · rw [if_pos h45]; exact hs1n h45
          · rw [if_neg h45]; exact hsn
        have hge : s ≤ (if b s = 45 then s + 1 else s) := by
          by_cases h45 : b s = 45
          · rw [if_pos h45]; omega
          · rw [if_neg h45]; omega
        unfold tokN tokN1
        generalize (if b s = 45 then s + 1 else s) = s1 at *
        have hpos : s1 < spn isDig b (n - s1) s1 := spn_pos hlt hdig
        have hle := spn_le isDig b (n - s1) s1
        generalize spn isDig b (n - s1) s1 = e at *
        refine ⟨hs1, by show s ≤ e; omega, by show e ≤ n; omega, fun _ => ⟨by show p < e; omega, by show s < e; omega⟩, ?_, ?_, ?_⟩
        · show (if _ then 2 else 36) ≤ 36
          split <;> omega
        · show (if _ then 2 else 36) = 3 → _
          split <;> (intro h; omega)
        · show (if _ then 2 else 36) = 4 → _
          split <;> (intro h; omega)
      · rw [if_neg hN]
        unfold tokS
        have hk := sgnK_k (b s) (if s + 1 < n then b (s + 1) else 0)
        have hy : (if s + 1 < n then b (s + 1) else 0) ≠ 0 → s + 1 < n := by
          intro h
          by_cases h2 : s + 1 < n
          · exact h2
          · rw [if_neg h2] at h; exact absurd rfl h
        generalize (if s + 1 < n then b (s + 1) else 0) = y at *
        generalize sgnK (b s) y = r at *
        have h2 : s + r.2 ≤ n ∧ s < s + r.2 := by
          rcases hk.2 with h | ⟨h, _, h3⟩
          · omega
          · have := hy h3; omega
        refine ⟨hs1, by show s ≤ s + r.2; omega, by show s + r.2 ≤ n; omega, fun _ => ⟨by show p < s + r.2; omega, by show s < s + r.2; omega⟩, ?_, ?_, ?_⟩
        · show r.1 ≤ 36; omega
        · show r.1 = 3 → _; intro h; omega
        · show r.1 = 4 → _; intro h; omega
  · rw [if_neg hsn]
    refine ⟨hs1, Nat.le_refl s, by show s ≤ n; omega, fun h => absurd rfl h, Nat.zero_le _, fun h => absurd h (show ¬ 0 = 3 by decide), fun h => absurd h (show ¬ 0 = 4 by decide)⟩
/-! the class at a token -/
/-- a fault told by the class -/
def cf (m : x_m) (f p : Int32) : x_m := x_wS (x_wS m 3 5 f) 3 6 p
theorem kRf_eq {k j : Nat} (hj : j ≠ 1) : (kRf k = x_N + j) = (k = j ∧ k ≠ 36 ∨ k = 36 ∧ j = 1) := by
  unfold kRf
  apply propext
  by_cases h : k = 36
  · rw [if_pos h]; omega
  · rw [if_neg h]; omega
theorem kRf_kv {k : Nat} (h : k ≤ 36) : x_kv (kRf k) = true := by
  unfold x_kv kRf
  by_cases h2 : k = 36
  · rw [if_pos h2]; simp
  · rw [if_neg h2]; simp; omega
theorem kRf_is {k j : Nat} (hk : k ≤ 36) (hj : j ≠ 1) (hj2 : j < 36) : (kRf k = x_N + j) = (k = j) := by
  rw [kRf_eq hj]; apply propext; omega
theorem F_LX_tellHere_eq (a : Int32) (m : x_m) : F_LX_tellHere a m = some (0, cf m a (m.1 3 2)) := rfl
theorem F_LX_tellUnfit_eq (m : x_m) : F_LX_tellUnfit m = some (0, cf m (m.1 3 8) (m.1 3 2)) := rfl
theorem F_LX_tell_eq (a b : Int32) (m : x_m) : F_LX_tell a b m = some (0, cf m a b) := rfl
theorem F_LX_at_eq (M : x_m) {k s e j : Nat} (hk : k ≤ 36) (hj : j ≠ 1) (hj2 : j < 36) : F_LX_at (x_N + j) (ct M k s e) = if k = j then some (1, ct M k s e) else some (0, cf (ct M k s e) (kUn k) (xI s)) := by
  unfold F_LX_at
  rw [show (ct M k s e).2.2.1 3 1 = kRf k from rfl, if_pos (kRf_kv hk), if_pos (by unfold x_kv; simp; omega)]
  simp only [kRf_is hk hj hj2]
  rfl
theorem F_LX_atName_eq (M : x_m) {k s e : Nat} (hk : k ≤ 36) : F_LX_atName (ct M k s e) = if k = 3 then some (1, ct M k s e) else some (0, cf (ct M k s e) (if kWb k = true then 5 else kUn k) (xI s)) := by
  unfold F_LX_atName
  rw [show (ct M k s e).2.2.1 3 1 = kRf k from rfl, if_pos (kRf_kv hk)]
  simp only [kRf_is (j := 3) hk (by omega) (by omega)]
  by_cases h : k = 3
  · rw [if_pos h, if_pos h]; rfl
  · rw [if_neg h, if_neg h, show (ct M k s e).1 3 7 = bI (kWb k) from rfl]
    simp only [bI_0]
    by_cases w : kWb k = true
    · rw [if_neg (by rw [w]; decide), if_pos w]; rfl
    · rw [if_pos (by simpa using w), if_neg w]; rfl
/-- what of a class memory the lexer needs -/
def Lc (M : x_m) (n : Nat) : Prop := n ≤ 20000 ∧ M.1 1 1 = xI n ∧ ∀ j, isB (M.2.1 2 j)
theorem ctT_ct (M : x_m) (k s e : Nat) (t : Nat × Nat × Nat × Int32) : ctT (ct M k s e) t = ctT M t := ct_nb M k s e t.1 t.2.2.2 t.2.1 t.2.2.1
theorem adv_ct {M : x_m} {n : Nat} (h : Lc M n) {k s e : Nat} (he : e ≤ n) : F_LX_advance (ct M k s e) = some (ctT M (lx (M.2.1 2) n e)) := by
  rw [F_LX_advance_eq (m := ct M k s e) h.1 he h.2.1 rfl h.2.2]
  rw [show (ct M k s e).2.1 = M.2.1 from rfl, ctT_ct]
/-! the reference at a token -/
def Lr (R : x_m) (n : Nat) : Prop := n ≤ 20000 ∧ R.1 387 4 = xI n ∧ (∀ j, isB (R.2.1 388 j)) ∧ R.1 387 5 = 0
theorem read_rt {R : x_m} {n : Nat} (h : Lr R n) {k s e : Nat} (he : e ≤ n) : F_MD_read (rt R k s e) = some (rtT R (lx (R.2.1 388) n e)) := by
  rw [F_MD_read_eq (m := rt R k s e) h.1 he h.2.1 h.2.2.2 rfl h.2.2.1]
  rw [show (rt R k s e).2.1 = R.2.1 from rfl, rtT_rt]
theorem F_MD_read_f (m : x_m) (h : 0 < m.1 387 5) : F_MD_read m = some m := by
  unfold F_MD_read
  rw [if_neg (Int32.not_le.mpr h)]
theorem rTk_t1 : ∀ k, k < 36 → ∀ j, j < 17 → (k ≠ 1 ∧ 5 ≤ j → ((rTk k = 3 ∧ rSg k = rSg j) ↔ k = j)) := by decide +kernel
theorem rTk_t2 : ∀ k, k < 36 → ∀ w, w < 19 → (k ≠ 1 → ((rTk k = 1 ∧ rWd k = xI w) ↔ k = 17 + w)) := by decide +kernel
theorem rTk_t3 : ∀ k, k < 36 → (k ≠ 1 → (rTk k = 0 ↔ k = 0) ∧ (rTk k = 2 ↔ k = 2) ∧ (rTk k = 1 ↔ kWb k = true)) := by decide +kernel
theorem rTk_t4 : ∀ k, k < 36 → (kWb k = true → (0 ≤ rWd k ↔ (k ≠ 3 ∧ k ≠ 4))) := by decide +kernel
theorem rTk_tab (k : Nat) (hk : k ≤ 36) (h1 : k ≠ 1) (h36 : k ≠ 36) : (∀ j, j < 17 → 5 ≤ j → ((rTk k = 3 ∧ rSg k = rSg j) ↔ k = j)) ∧ (∀ w, w < 19 → ((rTk k = 1 ∧ rWd k = xI w) ↔ k = 17 + w)) ∧ (rTk k = 0 ↔ k = 0) ∧ (rTk k = 2 ↔ k = 2) ∧ (rTk k = 1 ↔ kWb k = true) ∧ (kWb k = true → (0 ≤ rWd k ↔ (k ≠ 3 ∧ k ≠ 4))) :=
  ⟨fun j a b => rTk_t1 k (by omega) j a ⟨h1, b⟩, fun w a => rTk_t2 k (by omega) w a h1, (rTk_t3 k (by omega) h1).1, (rTk_t3 k (by omega) h1).2.1, (rTk_t3 k (by omega) h1).2.2, rTk_t4 k (by omega)⟩
theorem F_MD_isSign_eq (R : x_m) {k s e j : Nat} (hk : k ≤ 36) (h1 : k ≠ 1) (h36 : k ≠ 36) (hj : 5 ≤ j) (hj2 : j < 17) : F_MD_isSign (rSg j) (rt R k s e) = some (bI (decide (k = j)), rt R k s e) := by
  have t := (rTk_tab k hk h1 h36).1 j hj2 hj
  unfold F_MD_isSign B_MD_isSign_20 B_MD_isSign_21
  rw [show (rt R k s e).1 387 9 = rTk k from rfl, show (rt R k s e).1 387 12 = rSg k from rfl]
  by_cases h : k = j
  · have := t.mpr h
    rw [if_pos this.1, if_pos this.2, decide_eq_true h]; rfl
  · rw [decide_eq_false h]
    by_cases a : rTk k = 3
    · rw [if_pos a, if_neg (fun z => h (t.mp ⟨a, z⟩))]; rfl
    · rw [if_neg a]; rfl
theorem F_MD_isWord_eq (R : x_m) {k s e w : Nat} (hk : k ≤ 36) (h1 : k ≠ 1) (h36 : k ≠ 36) (hw : w < 19) : F_MD_isWord (xI w) (rt R k s e) = some (bI (decide (k = 17 + w)), rt R k s e) := by
  have t := (rTk_tab k hk h1 h36).2.1 w hw
  unfold F_MD_isWord B_MD_isWord_20 B_MD_isWord_21
  rw [show (rt R k s e).1 387 9 = rTk k from rfl, show (rt R k s e).1 387 10 = rWd k from rfl]
  by_cases h : k = 17 + w
  · have := t.mpr h
    rw [if_pos this.1, if_pos this.2, decide_eq_true h]; rfl
  · rw [decide_eq_false h]
    by_cases a : rTk k = 1
    · rw [if_pos a, if_neg (fun z => h (t.mp ⟨a, z⟩))]; rfl
    · rw [if_neg a]; rfl
theorem F_MD_isSign_any (c : Int32) (m : x_m) : ∃ b, F_MD_isSign c m = some (bI b, m) := by
  unfold F_MD_isSign B_MD_isSign_20 B_MD_isSign_21
  by_cases h : m.1 387 9 = 3
  · rw [if_pos h]
    by_cases h2 : m.1 387 12 = c
    · rw [if_pos h2]; exact ⟨true, rfl⟩
    · rw [if_neg h2]; exact ⟨false, rfl⟩
  · rw [if_neg h]; exact ⟨false, rfl⟩
theorem F_MD_isWord_any (c : Int32) (m : x_m) : ∃ b, F_MD_isWord c m = some (bI b, m) := by
  unfold F_MD_isWord B_MD_isWord_20 B_MD_isWord_21
  by_cases h : m.1 387 9 = 1
  · rw [if_pos h]
    by_cases h2 : m.1 387 10 = c
    · rw [if_pos h2]; exact ⟨true, rfl⟩
    · rw [if_neg h2]; exact ⟨false, rfl⟩
  · rw [if_neg h]; exact ⟨false, rfl⟩
theorem F_MD_must_1 (m : x_m) (h : m.1 387 5 = 0) : F_MD_must 1 m = some (1, m) := by
  unfold F_MD_must B_MD_must_14
  rw [F_MD_want_1 m _ _ h, F_MD_want_1 m _ _ h]
  split <;> rfl
theorem F_MD_must_0 (R : x_m) {k s e : Nat} (hk : k ≤ 36) (h1 : k ≠ 1) (h36 : k ≠ 36) (h : R.1 387 5 = 0) : F_MD_must 0 (rt R k s e) = some (0, rf (rt R k s e) (kUn k) (xI s)) := by
  unfold F_MD_must B_MD_must_14
  rw [show (rt R k s e).1 387 9 = rTk k from rfl, F_MD_want_0 (rt R k s e) _ _ h (by decide), F_MD_want_0 (rt R k s e) _ _ h (by decide)]
  unfold kUn
  have t := (rTk_tab k hk h1 h36).2.2.1
  by_cases h0 : k = 0
  · rw [if_pos (t.mpr h0), if_pos h0]; rfl
  · rw [if_neg (fun z => h0 (t.mp z)), if_neg h0, if_neg h1, if_neg h36]; rfl
theorem F_MD_must_f (m : x_m) (c : Int32) (h : m.1 387 5 ≠ 0) : F_MD_must c m = some (0, m) := by
  unfold F_MD_must B_MD_must_14
  rw [F_MD_want_f m _ _ _ h, F_MD_want_f m _ _ _ h]
  split <;> rfl
theorem F_MD_name_f (m : x_m) (h : m.1 387 5 ≠ 0) : F_MD_name m = some (0, m) := by
  unfold F_MD_name B_MD_name_14
  rw [F_MD_must_f m _ h, F_MD_must_f m _ h]
  split <;> rfl
theorem F_MD_name_eq (R : x_m) {k s e : Nat} (hk : k ≤ 36) (h1 : k ≠ 1) (h36 : k ≠ 36) (h : R.1 387 5 = 0) (hse : s ≤ e) (he : e ≤ 20000) (h3 : k = 3 → e - s ≤ 40) (h4 : k = 4 → 40 < e - s) :
    F_MD_name (rt R k s e) = if k = 3 then some (1, rt R k s e) else some (0, rf (rt R k s e) (if kWb k = true then 5 else kUn k) (xI s)) := by
  obtain ⟨_, _, t0, _, t1, tw⟩ := rTk_tab k hk h1 h36
  unfold F_MD_name
  rw [show (rt R k s e).1 387 9 = rTk k from rfl]
  by_cases w : kWb k = true
  · rw [if_pos (t1.mpr w)]
    unfold B_MD_name_14
    rw [F_MD_must_1 (rt R k s e) h, Option.bind_some, if_neg (show ¬ (1 : Int32) = 0 by decide)]
    rw [show (rt R k s e).1 387 10 = rWd k from rfl, show (rt R k s e).1 387 7 = xI e from rfl, show (rt R k s e).1 387 8 = xI s from rfl, xI_sub hse]
    have lt40 : (40 < xI (e - s)) = (40 < e - s) := xI_lt (a := 40) (by omega) (by omega)
    simp only [lt40]
    unfold B_MD_name_46 B_MD_name_47
    rw [F_MD_want_0 (rt R k s e) _ _ h (by decide), F_MD_want_1 (rt R k s e) _ _ h]
    by_cases e3 : k = 3
    · rw [if_neg (fun z => ((tw w).mp z).1 e3), if_neg (by have := h3 e3; omega), if_pos e3]; rfl
    · rw [if_neg e3, if_pos w]
      by_cases e4 : k = 4
      · rw [if_neg (fun z => ((tw w).mp z).2 e4), if_pos (h4 e4)]; rfl
      · rw [if_pos ((tw w).mpr ⟨e3, e4⟩)]; rfl
  · rw [if_neg (fun z => w (t1.mp z))]
    unfold B_MD_name_14
    rw [F_MD_must_0 R hk h1 h36 h, Option.bind_some, if_pos rfl, if_neg (by intro z; rw [z] at w; exact w rfl), if_neg w]
    rfl
theorem F_MD_needSign_f (m : x_m) (c : Int32) (h : 0 < m.1 387 5) : F_MD_needSign c m = some (0, m) := by
  have h0 : m.1 387 5 ≠ 0 := fun z => by rw [z] at h; exact absurd h (by decide)
  unfold F_MD_needSign
  obtain ⟨b, hb⟩ := F_MD_isSign_any c m
  rw [F_MD_read_f m h, Option.bind_some, hb, Option.bind_some, F_MD_must_f m _ h0]
  rfl
