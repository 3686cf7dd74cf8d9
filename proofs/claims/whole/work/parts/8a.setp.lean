/-! grouping sets: which they are, and in what order -/
def pS (q a b : Nat) : Prop := a = q ∧ b = 6
def qS (q a : Nat) : Prop := a = q + 5
theorem addGroup_spec {M : x_m} {q k sz ns ng k' s' e' : Nat} {f : Nat → Nat} (hq : q = 115 ∨ q = 251) (hk : k ≤ 36) (hs : sz ≤ ng) (hn : ng ≤ 8) (hns : 0 < ns) (hn32 : ns ≤ 32) (h4 : M.1 q 4 = xI ng) (h6 : M.1 q 6 = xI ns) (hA : ∀ i, i < ns → M.2.1 (q + 5) i = xI (f i)) (hf : ∀ i, i < ns → f i < 2 ^ (ng - sz)) :
    (32 < chs (gkk k) sz * ns → F_QU_addGroup q (kRf k) (xI sz) (ct M k' s' e') = some (0, ct M k' s' e')) ∧
    (chs (gkk k) sz * ns ≤ 32 → ∃ M', F_QU_addGroup q (kRf k) (xI sz) (ct M k' s' e') = some (1, ct M' k' s' e') ∧ M'.1 q 6 = xI (chs (gkk k) sz * ns) ∧ (∀ x, x < chs (gkk k) sz * ns → M'.2.1 (q + 5) x = xI (setF f ns (ng - sz) (gkk k) sz x)) ∧ fr (pS q) (qS q) M M') := by
  have p3 : 2 ^ sz ≤ 2 ^ 8 := Nat.pow_le_pow_right (by omega) (by omega)
  have p2 : 1 ≤ 2 ^ sz := Nat.pow_pos (by omega)
  have chb : chs (gkk k) sz ≤ 256 ∧ 1 ≤ chs (gkk k) sz := by
    unfold chs
    split
    · omega
    · split <;> omega
  have cmul : chs (gkk k) sz * ns ≤ 256 * 32 := Nat.mul_le_mul chb.1 hn32
  have c4 : (ct M k' s' e').1 q 4 = xI ng := (ct_o _ _ _ _ _ (by omega)).trans h4
  have c6 : (ct M k' s' e').1 q 6 = xI ns := (ct_o _ _ _ _ _ (by omega)).trans h6
  have hF : F_QU_addGroup q (kRf k) (xI sz) (ct M k' s' e') = B_QU_addGroup_27 q (kRf k) (xI sz) (xI (chs (gkk k) sz)) (ct M k' s' e') := by
    unfold F_QU_addGroup
    simp only [kRf_kv hk, if_true, kRf_is (j := 25) hk (by omega) (by omega), kRf_is (j := 24) hk (by omega) (by omega)]
    rw [shl_tab sz (by omega), xI_add1]
    by_cases a : k = 25
    · rw [if_pos a, show chs (gkk k) sz = 2 ^ sz from by rw [a]; simp [chs, gkk]]
    · rw [if_neg a]
      by_cases b : k = 24
      · rw [if_pos b, show chs (gkk k) sz = sz + 1 from by rw [b]; simp [chs, gkk]]
      · rw [if_neg b, show chs (gkk k) sz = 1 from by simp [chs, gkk, a, b]]
        rw [show xI 1 = 1 from rfl]
  rw [hF]
  unfold B_QU_addGroup_27 B_QU_addGroup_47
  rw [c4, c6, xI_mul]
  simp only [show (32 < xI (chs (gkk k) sz * ns)) = (32 < chs (gkk k) sz * ns) from xI_lt (a := 32) (by omega) (by omega), xI_le (a := sz) (b := ng) (by omega) (by omega)]
  constructor
  · intro h
    rw [if_pos h]
  · intro h
    rw [if_neg (by omega), if_pos hs, xI_sub hs, show xI (chs (gkk k) sz) - 1 = xI (chs (gkk k) sz - 1) from by rw [show (1 : Int32) = xI 1 from rfl, xI_sub chb.2]]
    obtain ⟨m', v1, v2, v3, v4, v5⟩ := p_outer (q := q) (k := k) (sz := sz) (ns := ns) (g := ng - sz) (f := f) hk (by omega) (by omega) hns h hf (chs (gkk k) sz) x_fu (ct M k' s' e') (Nat.le_refl _) (by unfold x_fu; omega) c6 hA (fun x h1 h2 => by omega) chb.2
    refine ⟨((x_wS M q 6 (xI (ns * chs (gkk k) sz))).1, m'.2.1, M.2.2), ?_, ?_, v5, ?_⟩
    · rw [v1]
      congr 2
      refine Prod.ext ?_ (Prod.ext rfl ?_)
      · rw [v2, ct_wS _ _ _ _ _ (by omega)]; rfl
      · rw [v4]; rfl
    · show (if q = q ∧ 6 = 6 then _ else _) = _
      rw [if_pos ⟨rfl, rfl⟩, Nat.mul_comm]
    · refine ⟨fun a b z => ?_, fun a z => v3 a z, fun _ _ _ => rfl, rfl⟩
      show (if a = q ∧ b = 6 then _ else _) = _
      rw [if_neg (show ¬ (a = q ∧ b = 6) from z)]
/-- a part's columns, as its kind has them -/
def pOK (kk sz h : Nat) : Bool := decide (kk = 2) || (decide (kk = 0) && decide (h = 2 ^ sz - 1)) || (decide (kk = 1) && decide (h &&& (h + 1) = 0))
def okL (kd sz : Nat → Nat) (m : Nat) : Nat → Nat → Nat → Bool
  | 0, _, _ => true
  | n + 1, p, col => pOK (kd p) (sz p) (m / 2 ^ col % 2 ^ sz p) && okL kd sz m n (p + 1) (col + sz p)
def csum (sz : Nat → Nat) : Nat → Nat → Nat
  | 0, _ => 0
  | n + 1, p => sz p + csum sz n (p + 1)
theorem csum_snoc (sz : Nat → Nat) : ∀ n p, csum sz (n + 1) p = csum sz n p + sz (p + n)
  | 0, p => by show sz p + 0 = 0 + sz (p + 0); rw [Nat.add_zero, Nat.zero_add, Nat.add_zero]
  | n + 1, p => by
    rw [csum, csum_snoc sz n (p + 1), csum, show p + 1 + n = p + (n + 1) by omega]; omega
theorem okL_snoc (kd sz : Nat → Nat) (m : Nat) : ∀ n p col, okL kd sz m (n + 1) p col = (okL kd sz m n p col && pOK (kd (p + n)) (sz (p + n)) (m / 2 ^ (col + csum sz n p) % 2 ^ sz (p + n)))
  | 0, p, col => by
    show (pOK (kd p) (sz p) (m / 2 ^ col % 2 ^ sz p) && true) = (true && pOK (kd (p + 0)) (sz (p + 0)) (m / 2 ^ (col + 0) % 2 ^ sz (p + 0)))
    rw [Bool.and_true, Bool.true_and, Nat.add_zero, Nat.add_zero]
  | n + 1, p, col => by
    rw [okL, okL_snoc kd sz m n (p + 1) (col + sz p), okL, Bool.and_assoc, csum, show p + 1 + n = p + (n + 1) by omega, show col + sz p + csum sz n (p + 1) = col + (sz p + csum sz n (p + 1)) by omega]
theorem okL_congr {kd sz kd' sz' : Nat → Nat} (m : Nat) : ∀ n p col, (∀ i, p ≤ i → i < p + n → kd' i = kd i ∧ sz' i = sz i) → okL kd' sz' m n p col = okL kd sz m n p col
  | 0, _, _, _ => rfl
  | n + 1, p, col, h => by
    obtain ⟨h1, h2⟩ := h p (Nat.le_refl p) (by omega)
    rw [okL, okL, h1, h2, okL_congr m n (p + 1) (col + sz p) (fun i a b => h i (by omega) (by omega))]
theorem csum_congr {sz sz' : Nat → Nat} : ∀ n p, (∀ i, p ≤ i → i < p + n → sz' i = sz i) → csum sz' n p = csum sz n p
  | 0, _, _ => rfl
  | n + 1, p, h => by
    rw [csum, csum, h p (Nat.le_refl p) (by omega), csum_congr n (p + 1) (fun i a b => h i (by omega) (by omega))]
theorem bits_low (m g c s : Nat) (h : c + s ≤ g) : m % 2 ^ g / 2 ^ c % 2 ^ s = m / 2 ^ c % 2 ^ s := by
  have e1 : 2 ^ g = 2 ^ c * 2 ^ (g - c) := by rw [← Nat.pow_add]; congr 1; omega
  rw [e1, Nat.mod_mul_right_div_self, Nat.mod_mod_of_dvd]
  exact Nat.pow_dvd_pow 2 (by omega)
theorem okL_low (kd sz : Nat → Nat) (m g : Nat) : ∀ n p col, col + csum sz n p ≤ g → okL kd sz (m % 2 ^ g) n p col = okL kd sz m n p col
  | 0, _, _, _ => rfl
  | n + 1, p, col, h => by
    rw [csum] at h
    rw [okL, okL, bits_low m g col (sz p) (by omega), okL_low kd sz m g n (p + 1) (col + sz p) (by omega)]
/-- f lists just the masks that are right, the greatest first -/
def SPr (f : Nat → Nat) (ns ng : Nat) (kd sz : Nat → Nat) (np : Nat) : Prop := (∀ i, i < ns → f i < 2 ^ ng) ∧ (∀ i j, i < j → j < ns → f j < f i) ∧ (∀ m, m < 2 ^ ng → (okL kd sz m np 0 0 = true ↔ ∃ j, j < ns ∧ f j = m)) ∧ csum sz np 0 = ng
theorem roll_tab : ∀ z, z < 9 → ∀ h, h < 256 → (h < 2 ^ z → ((h &&& (h + 1) = 0) ↔ ∃ c, c < z + 1 ∧ (2 ^ z - 1) / 2 ^ c = h)) := by decide +kernel
theorem roll_dec : ∀ z, z < 9 → ∀ c, c < 9 → ∀ c', c' < 9 → (c < c' → c' ≤ z → (2 ^ z - 1) / 2 ^ c' < (2 ^ z - 1) / 2 ^ c) := by decide +kernel
theorem chC_iff {kk z h : Nat} (hz : z ≤ 8) (hk : kk ≤ 2) (h0 : kk = 0 → z = 1) (hh : h < 2 ^ z) : pOK kk z h = true ↔ ∃ c, c < chs kk z ∧ chC kk z c = h := by
  have p3 : 2 ^ z ≤ 2 ^ 8 := Nat.pow_le_pow_right (by omega) (by omega)
  unfold pOK chs chC
  have : kk = 0 ∨ kk = 1 ∨ kk = 2 := by omega
  rcases this with e | e | e
  · subst e
    have z1 := h0 rfl
    subst z1
    simp
    omega
  · subst e
    have := roll_tab z (by omega) h (by omega) hh
    simp
    rw [this]
  · subst e
    simp
    refine ⟨2 ^ z - 1 - h, by omega, by omega⟩
theorem chC_dec {kk z c c' : Nat} (hz : z ≤ 8) (hk : kk ≤ 2) (h1 : c < c') (h2 : c' < chs kk z) : chC kk z c' < chC kk z c := by
  unfold chs at h2
  unfold chC
  have : kk = 0 ∨ kk = 1 ∨ kk = 2 := by omega
  rcases this with e | e | e
  · subst e; simp at h2; omega
  · subst e
    simp at h2
    rw [if_pos rfl, if_pos rfl]
    exact roll_dec z (by omega) c (by omega) c' (by omega) h1 (by omega)
  · subst e
    simp at h2
    rw [if_neg (by omega), if_neg (by omega)]
    omega
theorem SPr_step {f : Nat → Nat} {ns g np kk z : Nat} {kd sz : Nat → Nat} (hns : 0 < ns) (hz : z ≤ 8) (hk : kk ≤ 2) (h0 : kk = 0 → z = 1) (h : SPr f ns g kd sz np) : SPr (setF f ns g kk z) (chs kk z * ns) (g + z) (fun i => if i = np then kk else kd i) (fun i => if i = np then z else sz i) (np + 1) := by
  obtain ⟨a1, a2, a3, a4⟩ := h
  have eqk : ∀ i, 0 ≤ i → i < 0 + np → (fun i => if i = np then kk else kd i) i = kd i ∧ (fun i => if i = np then z else sz i) i = sz i := by
    intro i _ hi
    exact ⟨if_neg (by omega), if_neg (by omega)⟩
  have cs : csum (fun i => if i = np then z else sz i) np 0 = g := (csum_congr np 0 (fun i a b => (eqk i a b).2)).trans a4
  refine ⟨fun i _ => setF_lt hns a1, fun i j hij hj => ?_, fun m hm => ?_, ?_⟩
  · have hi : i / ns < chs kk z := Nat.div_lt_of_lt_mul (by rw [Nat.mul_comm]; omega)
    have hj' : j / ns < chs kk z := Nat.div_lt_of_lt_mul (by rw [Nat.mul_comm]; omega)
    have hle : i / ns ≤ j / ns := Nat.div_le_div_right (by omega)
    have di := Nat.div_add_mod i ns
    have dj := Nat.div_add_mod j ns
    have mi := Nat.mod_lt i hns
    have mj := Nat.mod_lt j hns
    unfold setF
    by_cases e : i / ns = j / ns
    · rw [e] at di ⊢
      have := a2 (i % ns) (j % ns) (by omega) mj
      omega
    · have hc := chC_dec hz hk (show i / ns < j / ns by omega) hj'
      have b1 := a1 (j % ns) mj
      have b2 : (chC kk z (j / ns) + 1) * 2 ^ g ≤ chC kk z (i / ns) * 2 ^ g := Nat.mul_le_mul_right _ hc
      rw [Nat.add_mul, Nat.one_mul] at b2
      omega
  · rw [okL_snoc, Nat.zero_add, Nat.zero_add, cs, if_pos rfl, if_pos rfl, okL_congr m np 0 0 eqk, ← okL_low kd sz m g np 0 0 (by omega), Bool.and_eq_true]
    have pg : 0 < 2 ^ g := Nat.pow_pos (by omega)
    have hlo : m % 2 ^ g < 2 ^ g := Nat.mod_lt _ pg
    have hhi : m / 2 ^ g < 2 ^ z := Nat.div_lt_of_lt_mul (by rw [← Nat.pow_add]; exact hm)
    rw [Nat.mod_eq_of_lt hhi, a3 _ hlo, chC_iff hz hk h0 hhi]
    have dm := Nat.div_add_mod m (2 ^ g)
    constructor
    · rintro ⟨⟨i, i1, i2⟩, ⟨c, c1, c2⟩⟩
      refine ⟨c * ns + i, ?_, ?_⟩
      · have := Nat.mul_le_mul_right ns (show c + 1 ≤ chs kk z by omega)
        rw [Nat.add_mul, Nat.one_mul] at this; omega
      · unfold setF
        rw [show c * ns + i = i + c * ns by omega, Nat.add_mul_mod_self_right, Nat.mod_eq_of_lt i1, Nat.add_mul_div_right _ _ hns, Nat.div_eq_of_lt i1, Nat.zero_add, i2, c2, Nat.mul_comm]
        omega
    · rintro ⟨x, x1, x2⟩
      have hx : x / ns < chs kk z := Nat.div_lt_of_lt_mul (by rw [Nat.mul_comm]; omega)
      have fx := a1 (x % ns) (Nat.mod_lt x hns)
      unfold setF at x2
      have e1 : m % 2 ^ g = f (x % ns) := by rw [← x2, Nat.add_mul_mod_self_right, Nat.mod_eq_of_lt fx]
      have e2 : m / 2 ^ g = chC kk z (x / ns) := by rw [← x2, Nat.add_mul_div_right _ _ pg, Nat.div_eq_of_lt fx, Nat.zero_add]
      exact ⟨⟨x % ns, Nat.mod_lt x hns, e1.symm⟩, ⟨x / ns, hx, e2.symm⟩⟩
  · rw [csum_snoc, cs, Nat.zero_add, if_pos rfl]
