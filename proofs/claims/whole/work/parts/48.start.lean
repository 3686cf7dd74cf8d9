/-! the memory behind the constructors; a heap with an object (and an array) under way -/
def x_m0 : x_m := (fun p k => if p = 3 ∧ k = 6 then -1 else if p = 387 ∧ k = 6 then -1 else 0,
  fun p j => if 9 ≤ p ∧ p < 113 ∧ (p - 9) % 13 = 6 then (if j < 1000 then Int32.ofNat j else 0) else 0,
  fun p k => if p = 3 then x_N + 0 else if p = 114 then (if k = 3 then 115 else 251) else if p = 387 then (if k = 21 then 395 else 409) else 0,
  fun _ _ => 0)
def x_t : x_h := x_hp x_m0
def x_o (p : Nat) (o : va_E) (q : Nat) (c : va_E) (h : x_h) : x_h := fun k => if k = p then o else if k = q then c else if p < k then x_t k else h k
def x_ctr (p e : Nat) (h : x_h) : x_P := fun o n h' => o = .inl none ∧ n = e ∧ ∀ k, k < e → h' k = if p ≤ k then x_t k else h k
def x_rc (d c s : Nat) : Room := { frames := d, cells := c, slots := s, locals := 40 * d }
/-- the first i of an array of references -/
def x_fi (b z i : Nat) : Nat → Option Nat := fun j => if j < i then some (b + z * j) else none
theorem x_fi0 {b z : Nat} : x_fi b z 0 = fun _ => none := funext fun j => if_neg (Nat.not_lt_zero j)
theorem x_fi_next {b z i n : Nat} (hn : n = b + z * i) : va_up (x_fi b z i) i (some n) = x_fi b z (i + 1) := by
  subst hn
  funext j
  by_cases e : j = i
  · subst e; rw [va_up_self]; exact (if_pos (Nat.lt_succ_self j)).symm
  · rw [va_up_ne _ _ e]
    unfold x_fi
    by_cases h : j < i
    · rw [if_pos h, if_pos (Nat.lt_succ_of_lt h)]
    · rw [if_neg h, if_neg (fun z => h (by omega))]
theorem x_A0z {n : Nat} (h : ¬ (9 ≤ n ∧ n < 113 ∧ (n - 9) % 13 = 6)) : x_m0.2.1 n = fun _ => 0 := funext fun _ => if_neg h
theorem x_tz {n t N : Nat} (hs : x_shape n = .inr (.inl (t, N))) (h : ¬ (9 ≤ n ∧ n < 113 ∧ (n - 9) % 13 = 6)) : x_t n = .inl (t, N, .inl (fun _ => 0)) := (x_hp_i hs).trans (by rw [x_A0z h])
section XOV
variable {p q n k : Nat} {o o' c c' : va_E} {h : x_h}
theorem x_o_p : x_o p o q c h p = o := if_pos rfl
theorem x_o_q (hq : q ≠ p) : x_o p o q c h q = c := (if_neg hq).trans (if_pos rfl)
theorem x_o_lo (h1 : k < p) (h2 : k ≠ q) : x_o p o q c h k = h k := (if_neg (Nat.ne_of_lt h1)).trans ((if_neg h2).trans (if_neg (Nat.not_lt_of_lt h1)))
theorem x_o_hi (h1 : p < k) (h2 : k ≠ q) : x_o p o q c h k = x_t k := (if_neg (Nat.ne_of_gt h1)).trans ((if_neg h2).trans (if_pos h1))
theorem x_o_up : va_up (x_o p o q c h) p o' = x_o p o' q c h := by
  funext j
  by_cases e : j = p
  · subst e; rw [va_up_self, x_o_p]
  · rw [va_up_ne _ _ e]
    unfold x_o
    rw [if_neg e, if_neg e]
theorem x_o_uq (hq : q ≠ p) : va_up (x_o p o q c h) q c' = x_o p o q c' h := by
  funext j
  by_cases e : j = q
  · subst e; rw [va_up_self, x_o_q hq]
  · rw [va_up_ne _ _ e]
    unfold x_o
    by_cases e2 : j = p
    · rw [if_pos e2, if_pos e2]
    · rw [if_neg e2, if_neg e2, if_neg e, if_neg e]
theorem x_o_un (h1 : p < n) (h2 : n ≠ q) (hc : x_t n = c') : va_up (x_o p o q c h) n c' = x_o p o q c h := by
  funext j
  by_cases e : j = n
  · subst e; rw [va_up_self, x_o_hi h1 h2, hc]
  · rw [va_up_ne _ _ e]
theorem x_o_sw (hq : p < q) : va_up (x_o p o p c h) q c' = x_o p o q c' h := by
  funext j
  unfold x_o
  by_cases e : j = q
  · subst e; rw [va_up_self, if_neg (by omega), if_pos rfl]
  · rw [va_up_ne _ _ e]
    by_cases e2 : j = p
    · rw [if_pos e2, if_pos e2]
    · rw [if_neg e2, if_neg e2, if_neg e2, if_neg e]
theorem x_o_in (h1 : p < n) (h2 : q < n) : (if n ≤ k then x_t k else va_up (x_o p o q c h) n o' k) = x_o p o q c h k := by
  by_cases e : n ≤ k
  · rw [if_pos e, x_o_hi (by omega) (by omega)]
  · rw [if_neg e, va_up_ne _ _ (by omega)]
theorem x_o_end (ho : o = x_t p) (hc : c = x_t q) (hq : p ≤ q) : x_o p o q c h k = if p ≤ k then x_t k else h k := by
  by_cases e : k = p
  · subst e; rw [x_o_p, if_pos (Nat.le_refl k), ho]
  · by_cases e2 : k = q
    · subst e2; rw [x_o_q e, if_pos hq, hc]
    · by_cases e3 : p < k
      · rw [x_o_hi e3 e2, if_pos (Nat.le_of_lt e3)]
      · rw [x_o_lo (by omega) e2, if_neg (by omega)]
theorem x_o_0 (hp : h p = o) (hq : p ≤ q) (hk : k < p + 1) : h k = x_o p o q c h k := by
  by_cases e : k = p
  · subst e; rw [x_o_p]; exact hp
  · rw [x_o_lo (by omega) (by omega)]
theorem x_o_h5 (h1 : p < n) (h2 : q < n ∨ n + 5 ≤ q) (hn : x_t n = .inl (6, 4, .inr (.inr (.inr (.inr (fun i => if i < 4 then some (n + 1 + i) else none)))))) (hr : ∀ j, n < j → j < n + 5 → x_t j = .inl (0, 1000, .inl (fun _ => 0))) : x_h5 (x_o p o q c h) n k = x_o p o q c h k := by
  unfold x_h5
  by_cases e : k = n
  · subst e; rw [if_pos rfl, x_o_hi h1 (by omega), hn]
  · by_cases e2 : n < k ∧ k < n + 5
    · rw [if_neg e, if_pos e2, x_o_hi (by omega) (by omega), hr k e2.1 e2.2]
    · rw [if_neg e, if_neg e2]
end XOV
section XIN
variable {G : x_G} {M M2 : x_M} {rm rm2 : Room} {Qf : List Frame → Array Value → State → State → Prop} {cells slots : Nat} {lv : List (Nat × Value)} {st stk : List Value} {pc p q n b e index : Nat} {o c fr : va_E} {h0 : x_h} {As : List Value}
def x_ki (M2 : x_M) (na : Nat) : Prop := x_cd M2 ∧ Cond.code M2.1 M2.2.1 M2.2.2.1 none ∈ x_tsl ∧ M2.1.name = "<init>" ∧ Cond.instanceMethod M2.1 ∈ x_tsl ∧ x_pl M2 ∧ (parseMethodDescriptor M2.1.desc).map (fun d => d.parameters.length) = some na
theorem x_iniI (hd : decode M.2.1 pc = .ok (.invokespecial index, 3)) (hR : x_R G M2 rm2 true (.ref b :: As) n (va_up (x_o p o q c h0) b fr) (x_ctr b e (va_up (x_o p o q c h0) b fr))) (hk : x_ki M2 As.length) (hlk : Cond.methodLink M.1.cls index M2.1 ∈ x_tsl) (h1 : p < b) (h2 : q < b)
    (hrm : x_rm rm rm2 M2) (hce : cells + rm2.cells ≤ rm.cells) (hsl : slots + rm2.slots ≤ rm.slots) (hal : (lg_sl (.ref b :: As)).length ≤ M2.2.2.1) (hw : (st.map fun v => v.category).sum ≤ 8) (hst : stk = As.reverse ++ .ref b :: st)
    (kk : x_W G M rm Qf true e (x_o p o q c h0) (cells + rm2.cells) (slots + rm2.slots) lv st (pc + 3)) : x_W G M rm Qf true n (va_up (x_o p o q c h0) b fr) cells slots lv stk pc := by
  obtain ⟨k1, k2, k3, k4, k5, k6⟩ := hk
  refine x_callI hd hR k1 k2 k3 hlk k4 k5 k6 hrm hce hsl hal hw hst ?_ ?_
  · rintro v n' h' ⟨g1, rfl, g3⟩
    cases g1
    exact x_cong (fun k hk => (g3 k hk).trans (x_o_in h1 h2)) kk
  · rintro Y n' h' ⟨g1, -, -⟩
    cases g1
theorem x_iniN {host : String} (hd : decode M.2.1 pc = .ok (.invokespecial index, 3)) (hR : x_R G M2 rm2 true (.ref b :: As) n (va_up (x_o p o q c h0) b fr) (x_ctr b e (va_up (x_o p o q c h0) b fr))) (hk : x_ki M2 As.length) (hlk : Cond.methodLinkNest M.1.cls index M2.1 host ∈ lw_tbl) (h1 : p < b) (h2 : q < b)
    (hrm : x_rm rm rm2 M2) (hce : cells + rm2.cells ≤ rm.cells) (hsl : slots + rm2.slots ≤ rm.slots) (hal : (lg_sl (.ref b :: As)).length ≤ M2.2.2.1) (hw : (st.map fun v => v.category).sum ≤ 8) (hst : stk = As.reverse ++ .ref b :: st)
    (kk : x_W G M rm Qf true e (x_o p o q c h0) (cells + rm2.cells) (slots + rm2.slots) lv st (pc + 3)) : x_W G M rm Qf true n (va_up (x_o p o q c h0) b fr) cells slots lv stk pc := by
  obtain ⟨k1, k2, k3, k4, k5, k6⟩ := hk
  refine x_callIN hd hR k1 k2 k3 hlk k4 k5 k6 hrm hce hsl hal hw hst ?_ ?_
  · rintro v n' h' ⟨g1, rfl, g3⟩
    cases g1
    exact x_cong (fun k hk => (g3 k hk).trans (x_o_in h1 h2)) kk
  · rintro Y n' h' ⟨g1, -, -⟩
    cases g1
end XIN
/-- the first i of a row of indices -/
def x_rw (i : Nat) : Nat → Int32 := fun j => if j < i then Int32.ofNat j else 0
theorem x_rw0 : x_rw 0 = fun _ => 0 := funext fun j => if_neg (Nat.not_lt_zero j)
theorem x_rw_next (i : Nat) : upd (x_rw i) i (Int32.ofNat i) = x_rw (i + 1) := by
  funext j
  unfold upd x_rw
  by_cases e : j = i
  · subst e; rw [if_pos rfl, if_pos (Nat.lt_succ_self j)]
  · rw [if_neg e]
    by_cases h : j < i
    · rw [if_pos h, if_pos (Nat.lt_succ_of_lt h)]
    · rw [if_neg h, if_neg (fun z => h (by omega))]
theorem x_ile {a b : Nat} (ha : a < 2 ^ 31) (hb : b < 2 ^ 31) : (Int32.ofNat a ≤ Int32.ofNat b) ↔ a ≤ b := Int32.ofNat_le_ofNat ha hb
theorem x_inx (a : Nat) : Int32.ofNat a + Int32.ofInt 1 = Int32.ofNat (a + 1) := by
  rw [show Int32.ofInt 1 = Int32.ofNat 1 from rfl, ← Int32.ofNat_add]
theorem x_icl {a : Nat} (h : a < 2 ^ 31) : (Int32.ofNat a).toNatClampNeg = a := Int32.toNatClampNeg_ofNat_of_lt h
theorem x_iin {a N : Nat} (h : a < 2 ^ 31) (hN : a < N) : vp_in (Int32.ofNat a) N := by
  intro z
  rcases z with z | z
  · exact absurd ((x_ile (a := 0) (by decide) h).mpr (Nat.zero_le a)) (Int32.not_le.mpr z)
  · rw [x_icl h] at z; omega
