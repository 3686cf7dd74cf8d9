/-! what both keep between calls -/
def CLR (M : x_m) (q : Nat) : Prop := M.1 q 0 = 0 ∧ M.1 q 4 = 0 ∧ M.1 q 6 = 0 ∧ M.1 (q + 6) 0 = 0
def NewC (M R : x_m) (D : Nat) : Prop := (∀ d, d < D → DimR M R d) ∧ (∀ d, d < 8 → (∀ i, i < 1000 → M.2.1 (15 + 13 * d) i = xI i) ∧ (∀ l, l < 4 → M.2.1 (21 + 13 * d) l = 0)) ∧ (∀ d, D ≤ d → d < 8 → M.1 (9 + 13 * d) 1 = 0)
def SrtD (M R : x_m) (d c l k : Nat) : Prop := k ≤ 1000 ∧ M.2.1 (21 + 13 * d) l = xI k ∧ (∀ i j, i < j → j < k → M.2.1 (17 + 13 * d + l) i < M.2.1 (17 + 13 * d + l) j) ∧ (∀ v, (∃ i, i < k ∧ M.2.1 (17 + 13 * d + l) i = v) ↔ ∃ i, i < c ∧ R.2.1 391 (4000 * d + 4 * i + l) = v)
def OpD (M R : x_m) (d : Nat) : Prop := ∃ (L c : Nat) (ρ K : Nat → Nat) (pk : Nat), (1 ≤ L ∧ L ≤ 4 ∧ 1 ≤ c ∧ c ≤ 1000 ∧ M.1 (9 + 13 * d) 0 = xI L ∧ R.2.1 389 d = xI L ∧ M.1 (9 + 13 * d) 1 = xI c ∧ R.2.1 390 d = xI c) ∧ (∀ i, i < c → ρ i < 1000 ∧ M.2.1 (15 + 13 * d) i = xI (ρ i)) ∧ (∀ l i, l < L → i < c → M.2.1 (11 + 13 * d + l) (ρ i) = R.2.1 391 (4000 * d + 4 * i + l)) ∧ (∀ i j, i < j → j < c → R.2.1 391 (4000 * d + 4 * i) < R.2.1 391 (4000 * d + 4 * j)) ∧ (∀ l, l < L → SrtD M R d c l (K l)) ∧ pk < c ∧ M.1 (9 + 13 * d) 2 = xI pk ∧ R.2.1 392 d = xI pk
def OpC (M R : x_m) (D : Nat) : Prop := ∀ d, d < D → OpD M R d
def CO (M R : x_m) (D Ms q q2 r r2 : Nat) : Prop := (∀ j, isB (M.2.1 2 j)) ∧ (R.2.1 388 = M.2.1 2) ∧ (NK M R) ∧ (Zd M R D Ms) ∧ (M.2.2.1 114 3 = q2) ∧ (M.2.2.1 114 4 = q) ∧ (R.2.2.1 387 21 = r2) ∧ (R.2.2.1 387 22 = r) ∧ ((q = 115 ∧ q2 = 251) ∨ (q = 251 ∧ q2 = 115)) ∧ ((r = 395 ∧ r2 = 409) ∨ (r = 409 ∧ r2 = 395)) ∧ ((R.1 387 23 = 0 ∧ CLR M q2) ∨ (R.1 387 23 = 1 ∧ M.1 4 4 = 1 ∧ QR M R q2 r2 D)) ∧ ((M.1 4 4 = 0 ∧ R.1 387 2 = 0 ∧ NewC M R D) ∨ (M.1 4 4 = 1 ∧ R.1 387 2 = 1 ∧ OpC M R D))
theorem CO.tb {M R : x_m} {D Ms q q2 r r2 : Nat} (h : CO M R D Ms q q2 r r2) : ∀ j, isB (M.2.1 2 j) := h.1
theorem CO.tt {M R : x_m} {D Ms q q2 r r2 : Nat} (h : CO M R D Ms q q2 r r2) : R.2.1 388 = M.2.1 2 := h.2.1
theorem CO.nk {M R : x_m} {D Ms q q2 r r2 : Nat} (h : CO M R D Ms q q2 r r2) : NK M R := h.2.2.1
theorem CO.zd {M R : x_m} {D Ms q q2 r r2 : Nat} (h : CO M R D Ms q q2 r r2) : Zd M R D Ms := h.2.2.2.1
theorem CO.q3 {M R : x_m} {D Ms q q2 r r2 : Nat} (h : CO M R D Ms q q2 r r2) : M.2.2.1 114 3 = q2 := h.2.2.2.2.1
theorem CO.q4 {M R : x_m} {D Ms q q2 r r2 : Nat} (h : CO M R D Ms q q2 r r2) : M.2.2.1 114 4 = q := h.2.2.2.2.2.1
theorem CO.r21 {M R : x_m} {D Ms q q2 r r2 : Nat} (h : CO M R D Ms q q2 r r2) : R.2.2.1 387 21 = r2 := h.2.2.2.2.2.2.1
theorem CO.r22 {M R : x_m} {D Ms q q2 r r2 : Nat} (h : CO M R D Ms q q2 r r2) : R.2.2.1 387 22 = r := h.2.2.2.2.2.2.2.1
theorem CO.hq {M R : x_m} {D Ms q q2 r r2 : Nat} (h : CO M R D Ms q q2 r r2) : (q = 115 ∧ q2 = 251) ∨ (q = 251 ∧ q2 = 115) := h.2.2.2.2.2.2.2.2.1
theorem CO.hr {M R : x_m} {D Ms q q2 r r2 : Nat} (h : CO M R D Ms q q2 r r2) : (r = 395 ∧ r2 = 409) ∨ (r = 409 ∧ r2 = 395) := h.2.2.2.2.2.2.2.2.2.1
theorem CO.ask {M R : x_m} {D Ms q q2 r r2 : Nat} (h : CO M R D Ms q q2 r r2) : (R.1 387 23 = 0 ∧ CLR M q2) ∨ (R.1 387 23 = 1 ∧ M.1 4 4 = 1 ∧ QR M R q2 r2 D) := h.2.2.2.2.2.2.2.2.2.2.1
theorem CO.opn {M R : x_m} {D Ms q q2 r r2 : Nat} (h : CO M R D Ms q q2 r r2) : (M.1 4 4 = 0 ∧ R.1 387 2 = 0 ∧ NewC M R D) ∨ (M.1 4 4 = 1 ∧ R.1 387 2 = 1 ∧ OpC M R D) := h.2.2.2.2.2.2.2.2.2.2.2
theorem DimR_k {M R M' R' : x_m} {d : Nat} (h : DimR M R d) (f : ∀ b, M'.1 (9 + 13 * d) b = M.1 (9 + 13 * d) b) (f2 : ∀ l i, l < 4 → M'.2.1 (11 + 13 * d + l) i = M.2.1 (11 + 13 * d + l) i) (g1 : R'.2.1 389 d = R.2.1 389 d) (g2 : R'.2.1 390 d = R.2.1 390 d) (g3 : ∀ j, 4000 * d ≤ j → j < 4000 * d + 4000 → R'.2.1 391 j = R.2.1 391 j) : DimR M' R' d := by
  obtain ⟨L, c, a1, a2, a3, a4, a5, a6, a7, a8, a9⟩ := h
  refine ⟨L, c, a1, a2, a3, (f 0).trans a4, g1.trans a5, (f 1).trans a6, g2.trans a7, gRows_congr a1 a8 (fun l i hl hi => ?_), fun l i hl hi => ?_⟩
  · unfold Vc
    rw [show 9 + 13 * d + 2 + l = 11 + 13 * d + l by omega]
    exact (f2 l i (by omega)).symm
  · rw [f2 l i (by omega), g3 _ (by omega) (by omega)]
    exact a9 l i hl hi
theorem NewC_k {M R M' R' : x_m} {D : Nat} (h : NewC M R D) (hD : D ≤ 8) (f : ∀ a b, 9 ≤ a → a < 113 → M'.1 a b = M.1 a b) (f2 : ∀ a, 9 ≤ a → a < 113 → M'.2.1 a = M.2.1 a) (g : ∀ a, 389 ≤ a → a ≤ 392 → R'.2.1 a = R.2.1 a) : NewC M' R' D := by
  refine ⟨fun d hd => DimR_k (h.1 d hd) (fun b => f _ _ (by omega) (by omega)) (fun l i hl => congrFun (f2 _ (by omega) (by omega)) i) (congrFun (g _ (by omega) (by omega)) d) (congrFun (g _ (by omega) (by omega)) d) (fun j _ _ => congrFun (g _ (by omega) (by omega)) j), fun d hd => ?_, fun d h1 h2 => (f _ _ (by omega) (by omega)).trans (h.2.2 d h1 h2)⟩
  rw [f2 _ (by omega) (by omega), f2 _ (by omega) (by omega)]
  exact h.2.1 d hd
theorem OpD_k {M R M' R' : x_m} {d : Nat} (h : OpD M R d) (hd : d < 8) (f : ∀ a b, 9 ≤ a → a < 113 → M'.1 a b = M.1 a b) (f2 : ∀ a, 9 ≤ a → a < 113 → M'.2.1 a = M.2.1 a) (g : ∀ a, 389 ≤ a → a ≤ 392 → R'.2.1 a = R.2.1 a) : OpD M' R' d := by
  unfold OpD SrtD at *
  obtain ⟨L, c, ρ, K, pk, ⟨a1, a2, a3, a4, a5, a6, a7, a8⟩, b1, b2, b3, b4, b5, b6, b7⟩ := h
  refine ⟨L, c, ρ, K, pk, ⟨a1, a2, a3, a4, (f _ _ (by omega) (by omega)).trans a5, by rw [g _ (by omega) (by omega)]; exact a6, (f _ _ (by omega) (by omega)).trans a7, by rw [g _ (by omega) (by omega)]; exact a8⟩, by rw [f2 _ (by omega) (by omega)]; exact b1, fun l i hl hi => ?_, by rw [g _ (by omega) (by omega)]; exact b3, fun l hl => ?_, b5, (f _ _ (by omega) (by omega)).trans b6, by rw [g _ (by omega) (by omega)]; exact b7⟩
  · rw [f2 _ (by omega) (by omega), g _ (by omega) (by omega)]; exact b2 l i hl hi
  · rw [f2 (21 + 13 * d) (by omega) (by omega), f2 (17 + 13 * d + l) (by omega) (by omega), g 391 (by omega) (by omega)]; exact b4 l hl
theorem OpC_k {M R M' R' : x_m} {D : Nat} (h : OpC M R D) (hD : D ≤ 8) (f : ∀ a b, 9 ≤ a → a < 113 → M'.1 a b = M.1 a b) (f2 : ∀ a, 9 ≤ a → a < 113 → M'.2.1 a = M.2.1 a) (g : ∀ a, 389 ≤ a → a ≤ 392 → R'.2.1 a = R.2.1 a) : OpC M' R' D := fun d hd => OpD_k (h d hd) (by omega) f f2 g
theorem QR_k {M R M' R' : x_m} {q r D : Nat} (h : QR M R q r D) (hq : q = 115 ∨ q = 251) (hD : D ≤ 8) (f : ∀ a b, q ≤ a → a < q + 136 → M'.1 a b = M.1 a b) (f2 : ∀ a, q ≤ a → a < q + 136 → M'.2.1 a = M.2.1 a) (fl : ∀ d, d < 8 → M'.1 (9 + 13 * d) 0 = M.1 (9 + 13 * d) 0) (g : ∀ a b, r ≤ a → a < r + 14 → R'.1 a b = R.1 a b) (g2 : ∀ a, r ≤ a → a < r + 14 → R'.2.1 a = R.2.1 a) : QR M' R' q r D := by
  obtain ⟨ni, ng, ns, cc, jc, sn, fs, G, a1, a2, a3, a4, a5, a6, a7, a8⟩ := h
  refine ⟨ni, ng, ns, cc, jc, sn, fs, G, a1, QI_k a2 (f _ _ (by omega) (by omega)) (g _ _ (by omega) (by omega)) (fun a x y => f2 a (by omega) (by omega)) (fun a x y => g2 a (by omega) (by omega)), GQ_k a3 (f _ _ (by omega) (by omega)) (g _ _ (by omega) (by omega)) (f2 _ (by omega) (by omega)) (g2 _ (by omega) (by omega)), a4, (f _ _ (by omega) (by omega)).trans a5, (g _ _ (by omega) (by omega)).trans a6, ?_, CndQ_k a8 hq hD (fun a b x y => f a b (by omega) y) (fun a x y => f2 a (by omega) y) fl (g _ _ (by omega) (by omega)) (g _ _ (by omega) (by omega)) (fun a x y => g2 a (by omega) (by omega))⟩
  rw [f2 _ (by omega) (by omega), g2 _ (by omega) (by omega)]; exact a7
def kC (q2 a : Nat) : Prop := a = 4 ∨ (9 ≤ a ∧ a < 113) ∨ (q2 ≤ a ∧ a < q2 + 136)
theorem CO_k {M R M' R' : x_m} {D Ms q q2 r r2 : Nat} (h : CO M R D Ms q q2 r r2) (f : ∀ a b, kC q2 a → M'.1 a b = M.1 a b) (f2 : ∀ a, a = 2 ∨ a = 6 ∨ a = 7 ∨ kC q2 a → M'.2.1 a = M.2.1 a) (f3 : ∀ b, b = 3 ∨ b = 4 → M'.2.2.1 114 b = M.2.2.1 114 b) (g : ∀ b, b = 2 ∨ b = 13 ∨ b = 18 ∨ b = 23 → R'.1 387 b = R.1 387 b) (g' : ∀ a b, r2 ≤ a → a < r2 + 14 → R'.1 a b = R.1 a b) (g2 : ∀ a, (388 ≤ a ∧ a ≤ 394) ∨ (r2 ≤ a ∧ a < r2 + 14) → R'.2.1 a = R.2.1 a) (g3 : ∀ b, b = 21 ∨ b = 22 → R'.2.2.1 387 b = R.2.2.1 387 b) : CO M' R' D Ms q q2 r r2 := by
  have hD := h.zd.2.2.1
  have hq2 : q2 = 115 ∨ q2 = 251 := by have := h.hq; omega
  refine ⟨?_, ?_, ?_, ?_, (f3 _ (Or.inl rfl)).trans h.q3, (f3 _ (Or.inr rfl)).trans h.q4, (g3 _ (Or.inl rfl)).trans h.r21, (g3 _ (Or.inr rfl)).trans h.r22, h.hq, h.hr, ?_, ?_⟩
  · rw [f2 2 (by omega)]; exact h.tb
  · rw [f2 2 (by omega), g2 388 (by omega)]; exact h.tt
  · unfold NK
    rw [f2 6 (by omega), f2 7 (by omega), g2 393 (by omega), g2 394 (by omega)]; exact h.nk
  · unfold Zd
    rw [f 4 2 (by unfold kC; omega), f 4 3 (by unfold kC; omega), g 13 (by omega), g 18 (by omega)]; exact h.zd
  · rw [g 23 (by omega), f 4 4 (by unfold kC; omega)]
    rcases h.ask with ⟨a1, a2⟩ | ⟨a1, a2, a3⟩
    · left
      unfold CLR
      rw [f _ _ (by unfold kC; omega), f _ _ (by unfold kC; omega), f _ _ (by unfold kC; omega), f _ _ (by unfold kC; omega)]
      exact ⟨a1, a2⟩
    · right
      exact ⟨a1, a2, QR_k a3 hq2 hD (fun a b x y => f a b (by unfold kC; omega)) (fun a x y => f2 a (by unfold kC; omega)) (fun d hd => f _ _ (by unfold kC; omega)) g' (fun a x y => g2 a (by omega))⟩
  · rw [g 2 (by omega), f 4 4 (by unfold kC; omega)]
    rcases h.opn with ⟨a1, a2, a3⟩ | ⟨a1, a2, a3⟩
    · exact Or.inl ⟨a1, a2, NewC_k a3 hD (fun a b x y => f a b (by unfold kC; omega)) (fun a x y => f2 a (by unfold kC; omega)) (fun a x y => g2 a (by omega))⟩
    · exact Or.inr ⟨a1, a2, OpC_k a3 hD (fun a b x y => f a b (by unfold kC; omega)) (fun a x y => f2 a (by unfold kC; omega)) (fun a x y => g2 a (by omega))⟩
/-- the class keeps to its places, the reference to its own -/
def FC (M M' : x_m) : Prop := (∀ a b, 387 ≤ a → M'.1 a b = M.1 a b) ∧ (∀ a, 387 ≤ a → M'.2.1 a = M.2.1 a) ∧ (∀ a b, 387 ≤ a → M'.2.2.1 a b = M.2.2.1 a b)
def FR (R R' : x_m) : Prop := (∀ a b, a < 387 → R'.1 a b = R.1 a b) ∧ (∀ a, a < 387 → R'.2.1 a = R.2.1 a) ∧ (∀ a b, a < 387 → ¬ (a = 3 ∧ b = 1) → R'.2.2.1 a b = R.2.2.1 a b) ∧ R'.2.2.2 = R.2.2.2
theorem FC_refl (M : x_m) : FC M M := ⟨fun _ _ _ => rfl, fun _ _ => rfl, fun _ _ _ => rfl⟩
theorem FR_refl (M : x_m) : FR M M := ⟨fun _ _ _ => rfl, fun _ _ => rfl, fun _ _ _ _ => rfl, rfl⟩
theorem FC_trans {M M' M'' : x_m} (h : FC M M') (h' : FC M' M'') : FC M M'' := ⟨fun a b x => (h'.1 a b x).trans (h.1 a b x), fun a x => (h'.2.1 a x).trans (h.2.1 a x), fun a b x => (h'.2.2 a b x).trans (h.2.2 a b x)⟩
theorem FR_trans {M M' M'' : x_m} (h : FR M M') (h' : FR M' M'') : FR M M'' := ⟨fun a b x => (h'.1 a b x).trans (h.1 a b x), fun a x => (h'.2.1 a x).trans (h.2.1 a x), fun a b x y => (h'.2.2.1 a b x y).trans (h.2.2.1 a b x y), h'.2.2.2.trans h.2.2.2⟩
theorem FC_S (m : x_m) {p k : Nat} (v : Int32) (h : p < 387) : FC m (x_wS m p k v) := by
  refine ⟨fun a b x => ?_, fun _ _ => rfl, fun _ _ _ => rfl⟩
  show (if a = p ∧ b = k then _ else _) = _
  rw [if_neg (by omega)]
theorem FC_A (m : x_m) {p k : Nat} (v : Int32) (h : p < 387) : FC m (x_wA m p k v) := by
  refine ⟨fun _ _ _ => rfl, fun a x => ?_, fun _ _ _ => rfl⟩
  funext b
  show (if a = p ∧ b = k then _ else _) = _
  rw [if_neg (by omega)]
theorem FC_fr {P : Nat → Nat → Prop} {Q : Nat → Prop} {m m' : x_m} (h : fr P Q m m') (hp : ∀ a b, P a b → a < 387) (hq : ∀ a, Q a → a < 387) : FC m m' :=
  ⟨fun a b x => h.1 a b (fun z => by have := hp a b z; omega), fun a x => h.2.1 a (fun z => by have := hq a z; omega), fun a b x => h.2.2.1 a b (by omega)⟩
theorem FR_S (m : x_m) {p k : Nat} (v : Int32) (h : 387 ≤ p) : FR m (x_wS m p k v) := by
  refine ⟨fun a b x => ?_, fun _ _ => rfl, fun _ _ _ _ => rfl, rfl⟩
  show (if a = p ∧ b = k then _ else _) = _
  rw [if_neg (by omega)]
theorem FR_A (m : x_m) {p k : Nat} (v : Int32) (h : 387 ≤ p) : FR m (x_wA m p k v) := by
  refine ⟨fun _ _ _ => rfl, fun a x => ?_, fun _ _ _ _ => rfl, rfl⟩
  funext b
  show (if a = p ∧ b = k then _ else _) = _
  rw [if_neg (by omega)]
theorem FR_fr {P : Nat → Nat → Prop} {Q : Nat → Prop} {m m' : x_m} (h : fr P Q m m') (hp : ∀ a b, P a b → 387 ≤ a) (hq : ∀ a, Q a → 387 ≤ a) : FR m m' :=
  ⟨fun a b x => h.1 a b (fun z => by have := hp a b z; omega), fun a x => h.2.1 a (fun z => by have := hq a z; omega), fun a b _ y => h.2.2.1 a b y, h.2.2.2⟩
theorem FC_pC {q : Nat → Prop} {m m' : x_m} (h : fr pC q m m') (hq : ∀ a, q a → a < 387) : FC m m' := FC_fr h (fun a b z => by unfold pC at z; omega) hq
theorem FR_pR {q : Nat → Prop} {m m' : x_m} (h : fr pR q m m') (hq : ∀ a, q a → 387 ≤ a) : FR m m' := FR_fr h (fun a b z => by unfold pR at z; omega) hq
/-- a fault in the class's own lexer and the reference's fields changes nothing else -/
theorem CO_t {M R M' R' : x_m} {D Ms q q2 r r2 : Nat} (h : CO M R D Ms q q2 r r2) (f : fr pC q0 M M') (g : fr pR q0 R R') : CO M' R' D Ms q q2 r r2 := by
  have h1 := h.hq
  have h2 := h.hr
  exact CO_k h (fun a b z => f.1 a b (by unfold kC at z; unfold pC; omega)) (fun a _ => f.2.1 a id) (fun b _ => f.2.2.1 _ _ (by omega)) (fun b z => g.1 _ _ (by unfold pR; omega)) (fun a b x y => g.1 _ _ (by unfold pR; omega)) (fun a _ => g.2.1 a id) (fun b _ => g.2.2.1 _ _ (by omega))
theorem CO_q {M R M' R' : x_m} {D Ms q q2 r r2 : Nat} (h : CO M R D Ms q q2 r r2) (f : fr (pQ q) (qQ q) M M') (g : fr (pQr r) (qQr r) R R') : CO M' R' D Ms q q2 r r2 := by
  have h1 := h.hq
  have h2 := h.hr
  exact CO_k h (fun a b z => f.1 a b (by unfold kC at z; unfold pQ; omega)) (fun a z => f.2.1 a (by unfold kC at z; unfold qQ; omega)) (fun b _ => f.2.2.1 _ _ (by omega)) (fun b z => g.1 _ _ (by unfold pQr; omega)) (fun a b x y => g.1 _ _ (by unfold pQr; omega)) (fun a z => g.2.1 a (by unfold qQr; omega)) (fun b _ => g.2.2.1 _ _ (by omega))
/-- a failed name -/
theorem CO_n {M R M' R' : x_m} {D Ms q q2 r r2 : Nat} (h : CO M R D Ms q q2 r r2) (f : fr pC qN M M') (g : fr pR qNr R R') (hn : NK M' R') : CO M' R' D Ms q q2 r r2 := by
  have h1 := h.hq
  have h2 := h.hr
  have hD := h.zd.2.2.1
  have hq2 : q2 = 115 ∨ q2 = 251 := by omega
  refine ⟨?_, ?_, hn, ?_, (f.2.2.1 _ _ (by omega)).trans h.q3, (f.2.2.1 _ _ (by omega)).trans h.q4, (g.2.2.1 _ _ (by omega)).trans h.r21, (g.2.2.1 _ _ (by omega)).trans h.r22, h.hq, h.hr, ?_, ?_⟩
  · rw [f.2.1 2 (by unfold qN; omega)]; exact h.tb
  · rw [f.2.1 2 (by unfold qN; omega), g.2.1 388 (by unfold qNr; omega)]; exact h.tt
  · unfold Zd
    rw [f.1 4 2 (by unfold pC; omega), f.1 4 3 (by unfold pC; omega), g.1 387 13 (by unfold pR; omega), g.1 387 18 (by unfold pR; omega)]; exact h.zd
  · rw [g.1 387 23 (by unfold pR; omega), f.1 4 4 (by unfold pC; omega)]
    rcases h.ask with ⟨a1, a2⟩ | ⟨a1, a2, a3⟩
    · left
      unfold CLR
      rw [f.1 _ _ (by unfold pC; omega), f.1 _ _ (by unfold pC; omega), f.1 _ _ (by unfold pC; omega), f.1 _ _ (by unfold pC; omega)]
      exact ⟨a1, a2⟩
    · right
      exact ⟨a1, a2, QR_k a3 hq2 hD (fun a b x y => f.1 a b (by unfold pC; omega)) (fun a x y => f.2.1 a (by unfold qN; omega)) (fun d hd => f.1 _ _ (by unfold pC; omega)) (fun a b x y => g.1 a b (by unfold pR; omega)) (fun a x y => g.2.1 a (by unfold qNr; omega))⟩
  · rw [g.1 387 2 (by unfold pR; omega), f.1 4 4 (by unfold pC; omega)]
    rcases h.opn with ⟨a1, a2, a3⟩ | ⟨a1, a2, a3⟩
    · exact Or.inl ⟨a1, a2, NewC_k a3 hD (fun a b x y => f.1 a b (by unfold pC; omega)) (fun a x y => f.2.1 a (by unfold qN; omega)) (fun a x y => g.2.1 a (by unfold qNr; omega))⟩
    · exact Or.inr ⟨a1, a2, OpC_k a3 hD (fun a b x y => f.1 a b (by unfold pC; omega)) (fun a x y => f.2.1 a (by unfold qN; omega)) (fun a x y => g.2.1 a (by unfold qNr; omega))⟩
