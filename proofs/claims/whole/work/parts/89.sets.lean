/-! grouping sets of the class -/
def chs (kk sz : Nat) : Nat := if kk = 2 then 2 ^ sz else if kk = 1 then sz + 1 else 1
def chC (kk sz c : Nat) : Nat := if kk = 1 then (2 ^ sz - 1) / 2 ^ c else 2 ^ sz - 1 - c
def setF (f : Nat → Nat) (ns g kk sz x : Nat) : Nat := f (x % ns) + chC kk sz (x / ns) * 2 ^ g
theorem or_tab : ∀ g, g < 9 → ∀ y, y < 256 → xI (y % 2 ^ g) ||| (xI (y / 2 ^ g) <<< (xI g &&& 31)) = xI y := by decide +kernel
theorem shl_tab : ∀ x, x < 9 → (1 : Int32) <<< (xI x &&& 31) = xI (2 ^ x) := by decide +kernel
theorem shr_tab : ∀ x, x < 9 → ∀ c, c < 9 → xI (2 ^ x - 1) >>> (xI c &&& 31) = xI ((2 ^ x - 1) / 2 ^ c) := by decide +kernel
theorem or_val {x ch g : Nat} (hg : g < 9) (hx : x < 2 ^ g) (h : x + ch * 2 ^ g < 256) : xI x ||| (xI ch <<< (xI g &&& 31)) = xI (x + ch * 2 ^ g) := by
  have := or_tab g hg (x + ch * 2 ^ g) h
  rwa [Nat.add_mul_mod_self_right, Nat.mod_eq_of_lt hx, Nat.add_mul_div_right _ _ (Nat.pow_pos (by omega)), Nat.div_eq_of_lt hx, Nat.zero_add] at this
theorem chosen_eq {k sz c : Nat} (hk : k ≤ 36) (hs : sz ≤ 8) (hc : c < chs (gkk k) sz) (m : x_m) : F_QU_chosenColumns (kRf k) (xI sz) (xI c) m = some (xI (chC (gkk k) sz c), m) := by
  unfold F_QU_chosenColumns B_QU_chosenColumns_22
  simp only [kRf_kv hk, if_true, kRf_is (j := 24) hk (by omega) (by omega)]
  have p2 : 1 ≤ 2 ^ sz := Nat.pow_pos (by omega)
  have p3 : 2 ^ sz ≤ 2 ^ 8 := Nat.pow_le_pow_right (by omega) hs
  rw [shl_tab sz (by omega), show xI (2 ^ sz) - 1 = xI (2 ^ sz - 1) from by rw [show (1 : Int32) = xI 1 from rfl, xI_sub p2]]
  unfold chC chs gkk at *
  by_cases a : k = 24
  · simp only [a, if_true] at *
    rw [shr_tab sz (by omega) c (by simp at hc; omega)]
  · simp only [a, if_false] at *
    by_cases b : k = 25
    · simp only [b, if_true] at hc ⊢
      rw [xI_sub (by omega)]
      simp
    · simp only [b, if_false] at hc ⊢
      have : c = 0 := by simp at hc; omega
      subst this
      rw [xI_sub (by omega)]
      simp
/-- one block of sets -/
theorem p_blk (q : Nat) (K : Nat → Int32 → Int32 → Int32 → Int32 → x_m → Option (Int32 × x_m)) (l1 : Nat) (l2 l3 l4 l6 : Int32) {ns c : Nat} (hb : c * ns + ns ≤ 32) : ∀ (d i f : Nat) (m : x_m), i + d = ns → d < f → m.1 q 6 = xI ns →
    B_QU_addGroup_82 q K f l1 l2 l3 l4 (xI c) l6 (xI i) m = K l1 l2 l3 l4 (xI c + (-1)) (m.1, (fun a => if a = q + 5 then (fun x => if c * ns + i ≤ x ∧ x < c * ns + ns then (m.2.1 (q + 5) (x - c * ns)) ||| l6 else m.2.1 (q + 5) x) else m.2.1 a), m.2.2) := by
  intro d
  induction d with
  | zero =>
    intro i f m hi hf h6
    cases f with
    | zero => omega
    | succ f =>
      rw [B_QU_addGroup_82, h6, if_pos (by rw [xI_le (by omega) (by omega)]; omega)]
      congr 1
      refine Prod.ext rfl (Prod.ext ?_ rfl)
      funext a
      show m.2.1 a = if a = q + 5 then _ else _
      by_cases e : a = q + 5
      · rw [if_pos e]
        funext x
        rw [if_neg (by omega), e]
      · rw [if_neg e]
  | succ d ih =>
    intro i f m hi hf h6
    cases f with
    | zero => omega
    | succ f =>
      rw [B_QU_addGroup_82, h6, if_neg (by rw [xI_le (by omega) (by omega)]; omega), xI_mul, xI_add, xI_ix (by omega), xI_ix (by omega), if_pos (show decide (i < 32) = true by simp; omega), if_pos (show decide (c * ns + i < 32) = true by simp; omega), xI_cl (by omega), xI_cl (by omega), xI_add1]
      rw [ih (i + 1) f (x_wA m (q + 5) (c * ns + i) ((m.2.1 (q + 5) i) ||| l6)) (by omega) (by omega) h6]
      congr 1
      refine Prod.ext rfl (Prod.ext ?_ rfl)
      funext a
      show (if a = q + 5 then _ else _) = if a = q + 5 then _ else _
      by_cases e : a = q + 5
      · rw [if_pos e, if_pos e]
        funext x
        have r : ∀ y, (x_wA m (q + 5) (c * ns + i) ((m.2.1 (q + 5) i) ||| l6)).2.1 (q + 5) y = if y = c * ns + i then (m.2.1 (q + 5) i) ||| l6 else m.2.1 (q + 5) y := by
          intro y
          show (if q + 5 = q + 5 ∧ y = c * ns + i then _ else _) = _
          by_cases hy : y = c * ns + i
          · rw [if_pos ⟨rfl, hy⟩, if_pos hy]
          · rw [if_neg (fun z => hy z.2), if_neg hy]
        rw [r, r]
        by_cases h1 : x = c * ns + i
        · rw [if_neg (by omega), if_pos h1, if_pos (by omega), h1, Nat.add_sub_cancel_left]
        · by_cases h2 : c * ns + (i + 1) ≤ x ∧ x < c * ns + ns
          · have hne : ¬ x - c * ns = c * ns + i := by
              by_cases c0 : c = 0
              · subst c0; omega
              · have : 1 * ns ≤ c * ns := Nat.mul_le_mul_right _ (by omega)
                omega
            rw [if_pos h2, if_neg hne, if_pos (show c * ns + i ≤ x ∧ x < c * ns + ns by omega)]
          · rw [if_neg h2, if_neg h1, if_neg (by omega)]
      · rw [if_neg e, if_neg e]
        funext x
        show (if a = q + 5 ∧ x = c * ns + i then _ else _) = _
        rw [if_neg (fun z => e z.1)]
theorem chC_lt {kk sz c : Nat} : chC kk sz c < 2 ^ sz := by
  have p2 : 1 ≤ 2 ^ sz := Nat.pow_pos (by omega)
  unfold chC
  split
  · exact Nat.lt_of_le_of_lt (Nat.div_le_self _ _) (by omega)
  · omega
theorem setF_lt {f : Nat → Nat} {ns g kk sz x : Nat} (hns : 0 < ns) (hf : ∀ i, i < ns → f i < 2 ^ g) : setF f ns g kk sz x < 2 ^ (g + sz) := by
  unfold setF
  have h1 := hf (x % ns) (Nat.mod_lt _ hns)
  have h2 : chC kk sz (x / ns) + 1 ≤ 2 ^ sz := chC_lt
  have h3 : (chC kk sz (x / ns) + 1) * 2 ^ g ≤ 2 ^ sz * 2 ^ g := Nat.mul_le_mul_right _ h2
  rw [Nat.add_mul, Nat.one_mul, ← Nat.pow_add, Nat.add_comm sz g] at h3
  omega
theorem p_outer {q k sz ns g : Nat} {f : Nat → Nat} (hk : k ≤ 36) (hs : sz ≤ 8) (hgs : g + sz ≤ 8) (hns : 0 < ns) (hcn : chs (gkk k) sz * ns ≤ 32) (hf : ∀ i, i < ns → f i < 2 ^ g) : ∀ (c fu : Nat) (m : x_m), c ≤ chs (gkk k) sz → c < fu → m.1 q 6 = xI ns → (∀ i, i < ns → m.2.1 (q + 5) i = xI (f i)) → (∀ x, c * ns ≤ x → x < chs (gkk k) sz * ns → 0 < c → m.2.1 (q + 5) x = xI (setF f ns g (gkk k) sz x)) → 0 < c →
    ∃ m', B_QU_addGroup_62 q fu (kRf k) (xI sz) (xI (chs (gkk k) sz)) (xI g) (xI (c - 1)) m = some (1, m') ∧ m'.1 = (x_wS m q 6 (xI (ns * chs (gkk k) sz))).1 ∧ (∀ a, a ≠ q + 5 → m'.2.1 a = m.2.1 a) ∧ m'.2.2 = m.2.2 ∧ (∀ x, x < chs (gkk k) sz * ns → m'.2.1 (q + 5) x = xI (setF f ns g (gkk k) sz x)) := by
  have p8 : 2 ^ (g + sz) ≤ 2 ^ 8 := Nat.pow_le_pow_right (by omega) hgs
  have ch32 : chs (gkk k) sz ≤ 32 := by
    have := Nat.mul_le_mul_left (chs (gkk k) sz) hns
    omega
  intro c
  induction c with
  | zero => intro fu m _ _ _ _ _ h; omega
  | succ c ih =>
    intro fu m hc hfu h6 hA hB _
    cases fu with
    | zero => omega
    | succ fu =>
    have cns : c * ns + ns ≤ chs (gkk k) sz * ns := by
      have := Nat.mul_le_mul_right ns hc
      rw [Nat.add_mul, Nat.one_mul] at this; omega
    rw [B_QU_addGroup_62, Nat.add_sub_cancel, if_neg (xI_not_neg (by omega)), chosen_eq hk hs (by omega), Option.bind_some]
    simp only []
    rw [show (0 : Int32) = xI 0 from rfl, p_blk q _ _ _ _ _ _ (show c * ns + ns ≤ 32 by omega) ns 0 x_fu m (by omega) (by unfold x_fu; omega) h6]
    generalize hm' : ((m.1, (fun a => if a = q + 5 then (fun x => if c * ns + 0 ≤ x ∧ x < c * ns + ns then (m.2.1 (q + 5) (x - c * ns)) ||| (xI (chC (gkk k) sz c) <<< (xI g &&& 31)) else m.2.1 (q + 5) x) else m.2.1 a), m.2.2) : x_m) = m1
    have r1 : m1.1 = m.1 := by rw [← hm']
    have r3 : m1.2.2 = m.2.2 := by rw [← hm']
    have r2 : ∀ a, a ≠ q + 5 → m1.2.1 a = m.2.1 a := by
      intro a ha; rw [← hm']
      show (if a = q + 5 then _ else _) = _
      rw [if_neg ha]
    have r5 : ∀ x, m1.2.1 (q + 5) x = if c * ns ≤ x ∧ x < c * ns + ns then (m.2.1 (q + 5) (x - c * ns)) ||| (xI (chC (gkk k) sz c) <<< (xI g &&& 31)) else m.2.1 (q + 5) x := by
      intro x; rw [← hm']
      show (if q + 5 = q + 5 then _ else _ : Nat → Int32) x = _
      rw [if_pos rfl]; rfl
    have blk : ∀ x, c * ns ≤ x → x < c * ns + ns → m1.2.1 (q + 5) x = xI (setF f ns g (gkk k) sz x) := by
      intro x h1 h2
      have hxd : x / ns = c := Nat.div_eq_of_lt_le h1 (by rw [Nat.add_mul, Nat.one_mul]; omega)
      have hxm : x % ns = x - c * ns := by
        have := Nat.div_add_mod x ns
        rw [hxd, Nat.mul_comm] at this; omega
      rw [r5, if_pos ⟨h1, h2⟩, hA _ (by omega)]
      have hl := setF_lt (x := x) (kk := gkk k) (sz := sz) hns hf
      unfold setF at hl ⊢
      rw [hxd, hxm] at hl ⊢
      exact or_val (by omega) (hf _ (by omega)) (by omega)
    by_cases c0 : c = 0
    · subst c0
      -- the last block: the loop ends
      cases fu with
      | zero => omega
      | succ fu =>
      have en : xI 0 + (-1) < 0 := by decide
      rw [B_QU_addGroup_62, if_pos en]
      refine ⟨_, rfl, ?_, ?_, r3, ?_⟩
      · funext a b
        show (if a = q ∧ b = 6 then m1.1 q 6 * xI _ else m1.1 a b) = if a = q ∧ b = 6 then _ else m.1 a b
        rw [r1, h6, xI_mul]
      · exact r2
      · intro x hx
        show m1.2.1 (q + 5) x = _
        by_cases hx2 : x < ns
        · exact blk x (by omega) (by omega)
        · rw [r5, if_neg (by omega)]
          exact hB x (by omega) hx (by omega)
    · have en : xI c + (-1) = xI (c - 1) := by
        obtain ⟨c', hc'⟩ : ∃ c', c = c' + 1 := ⟨c - 1, by omega⟩
        subst hc'
        rw [← xI_add1, Int32.add_assoc]
        show xI c' + 0 = xI (c' + 1 - 1)
        rw [Int32.add_zero]; rfl
      rw [en]
      have n1 : 1 * ns ≤ c * ns := Nat.mul_le_mul_right _ (by omega)
      obtain ⟨m', v1, v2, v3, v4, v5⟩ := ih fu m1 (by omega) (by omega) (by rw [r1]; exact h6) (fun i hi => by rw [r5, if_neg (by omega)]; exact hA i hi) (fun x h1 h2 _ => by
        by_cases hx : x < c * ns + ns
        · exact blk x h1 hx
        · rw [r5, if_neg (by omega)]
          exact hB x (by rw [Nat.add_mul, Nat.one_mul]; omega) h2 (by omega)) (by omega)
      refine ⟨m', v1, ?_, fun a ha => (v3 a ha).trans (r2 a ha), v4.trans r3, v5⟩
      rw [v2]
      funext a b
      show (if a = q ∧ b = 6 then _ else m1.1 a b) = if a = q ∧ b = 6 then _ else m.1 a b
      rw [r1]
