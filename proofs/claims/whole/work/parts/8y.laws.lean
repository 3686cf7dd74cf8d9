/-! the law's loop -/
theorem SR_mixR {M R R' : x_m} {n : Nat} (h : SR M R n) (f : FC R R') : SR M R' n := by
  obtain ⟨D, Ms, q, q2, r, r2, hc, a1, a2, a3, a4, a5⟩ := h
  have hr := hc.hr
  exact ⟨D, Ms, q, q2, r, r2, CO_k hc (fun _ _ _ => rfl) (fun _ _ => rfl) (fun _ _ => rfl) (fun b _ => f.1 _ _ (by omega)) (fun a b x y => f.1 _ _ (by omega)) (fun a x => f.2.1 _ (by omega)) (fun b _ => f.2.2 _ _ (by omega)), a1, a2, (f.1 _ _ (by omega)).trans a3, by rw [f.1 _ _ (by omega)]; exact a4, by rw [f.1 _ _ (by omega)]; exact a5⟩
theorem SR_mixL {M R M' : x_m} {n : Nat} (h : SR M R n) (f : FR M M') : SR M' R n := by
  obtain ⟨D, Ms, q, q2, r, r2, hc, a1, a2, a3, a4, a5⟩ := h
  have hq := hc.hq
  exact ⟨D, Ms, q, q2, r, r2, CO_k hc (fun a b z => f.1 _ _ (by unfold kC at z; omega)) (fun a z => f.2.1 _ (by unfold kC at z; omega)) (fun b _ => f.2.2.1 _ _ (by omega) (by omega)) (fun _ _ => rfl) (fun _ _ _ _ => rfl) (fun _ _ => rfl) (fun _ _ => rfl), a1, (f.1 _ _ (by omega)).trans a2, a3, by rw [f.1 _ _ (by omega)]; exact a4, by rw [f.1 _ _ (by omega)]; exact a5⟩
def one (W S : x_m → Option (Int32 × x_m)) (K : x_m → Option (Int32 × x_m)) (m : x_m) : Option (Int32 × x_m) := (W m).bind fun r => (S r.2).bind fun r' => (F_MD_thrown r'.2).bind fun t => if t.1 = r.1 then (if r.1 = 0 then (if (lg_cmp (t.2.2.2.2 424 0) r'.1.toInt64) = 0 then K t.2 else some (0, t.2)) else K t.2) else some (0, t.2)
theorem lg_self (x : Int64) : lg_cmp x x = 0 := by
  unfold lg_cmp
  simp
theorem one_ok {W S : x_m → Option (Int32 × x_m)} (K : x_m → Option (Int32 × x_m)) {m : x_m} {n : Nat} (h : SR m m n) (H : ∀ M R, SR M R n → ∃ n', n' ≤ n + 20 ∧ LO n' M R (W M) (S R)) : ∃ m' n', n' ≤ n + 20 ∧ SR m' m' n' ∧ one W S K m = K m' := by
  obtain ⟨n0, _, code, M', v, R', a1, a2, a3, a4, a5, a6, a7⟩ := H m m h
  obtain ⟨n1, hn1, code2, M2, v2, R2, b1, b2, b3, b4, b5, b6, b7⟩ := H m M' (SR_mixR h a6)
  rw [a1] at b1
  injection b1 with b1
  injection b1 with c1 c2
  subst c1; subst c2
  refine ⟨R2, n1, hn1, SR_mixL b5 b7, ?_⟩
  unfold one F_MD_thrown
  rw [a1, Option.bind_some]
  simp only []
  rw [b2, Option.bind_some, Option.bind_some]
  simp only []
  rw [if_pos b3]
  by_cases z : code = 0
  · rw [if_pos z, b7.2.2.2, b4 z, if_pos (lg_self _)]
  · rw [if_neg z]
theorem LO_le {n n' : Nat} {M R : x_m} {W S : Option (Int32 × x_m)} (h : LO n' M R W S) (hn : n' ≤ n + 20) : ∃ n', n' ≤ n + 20 ∧ LO n' M R W S := ⟨n', hn, h⟩
theorem SR_0 : SR x_m0 x_m0 0 := by
  refine ⟨0, 0, 251, 115, 409, 395, ⟨fun j => ⟨0, by omega, rfl⟩, rfl, ⟨rfl, rfl, fun j => ⟨0, by omega, rfl⟩⟩, ⟨rfl, rfl, by omega, rfl, rfl, by omega⟩, rfl, rfl, rfl, rfl, by omega, by omega, Or.inl ⟨rfl, rfl, rfl, rfl, rfl⟩, Or.inl ⟨rfl, rfl, fun d hd => by omega, fun d hd => ⟨fun i hi => ?_, fun l hl => ?_⟩, fun d _ hd => ?_⟩⟩, by omega, rfl, rfl, rfl, rfl⟩
  · show (if 9 ≤ 15 + 13 * d ∧ 15 + 13 * d < 113 ∧ (15 + 13 * d - 9) % 13 = 6 then if i < 1000 then Int32.ofNat i else 0 else 0) = xI i
    rw [if_pos (by omega), if_pos hi]; rfl
  · show (if 9 ≤ 21 + 13 * d ∧ 21 + 13 * d < 113 ∧ (21 + 13 * d - 9) % 13 = 6 then if l < 1000 then Int32.ofNat l else 0 else 0) = 0
    rw [if_neg (by omega)]
  · show (if 9 + 13 * d = 3 ∧ 1 = 6 then (-1 : Int32) else if 9 + 13 * d = 387 ∧ 1 = 6 then -1 else 0) = 0
    rw [if_neg (by omega), if_neg (by omega)]
theorem law_loop {L : Nat} {xs : Nat → Int32} (hL : L ≤ 3072) : ∀ (f j n : Nat) (m : x_m), SR m m n → n ≤ 20 * j → 6 * j ≤ L → L < 6 * j + 6 * f → ∃ r : Int32 × x_m, B_LW_law_23 L xs f (xI (6 * j)) m = some r ∧ r.1 = 1 := by
  intro f
  induction f with
  | zero => intro j n m _ _ h1 h2; omega
  | succ f ih =>
    intro j n m h hn h1 h2
    rw [B_LW_law_23]
    by_cases ends : L < 6 * j + 6
    · refine ⟨(1, m), ?_, rfl⟩
      rw [if_pos ?_]
      show xI L - 6 < xI (6 * j)
      by_cases l6 : 6 ≤ L
      · rw [show (6 : Int32) = xI 6 from rfl, xI_sub l6, xI_lt (by omega) (by omega)]; omega
      · have : j = 0 := by omega
        subst this
        have : L = 0 ∨ L = 1 ∨ L = 2 ∨ L = 3 ∨ L = 4 ∨ L = 5 := by omega
        rcases this with z | z | z | z | z | z <;> subst z <;> decide
    · rw [if_neg (by show ¬ (xI L - xI 6 < xI (6 * j)); rw [xI_sub (by omega), xI_lt (by omega) (by omega)]; omega)]
      have K : ∀ m' n', SR m' m' n' → n' ≤ n + 20 → ∃ r : Int32 × x_m, B_LW_law_23 L xs f (xI (6 * j) + 6) m' = some r ∧ r.1 = 1 := by
        intro m' n' hs hn'
        have e : xI (6 * j) + 6 = xI (6 * (j + 1)) := by
          rw [show (6 : Int32) = xI 6 from rfl, xI_add, show 6 * j + 6 = 6 * (j + 1) by omega]
        rw [e]
        exact ih (j + 1) n' m' hs (by omega) (by omega) (by omega)
      have g : ∀ i, i < 6 → x_ix (xI (6 * j + i)) L = true := by
        intro i hi
        rw [xI_ix (by omega)]
        exact decide_eq_true (by omega)
      have e1 : xI (6 * j) + 1 = xI (6 * j + 1) := xI_add _ 1
      have e2 : xI (6 * j) + 2 = xI (6 * j + 2) := xI_add _ 2
      have e3 : xI (6 * j) + 3 = xI (6 * j + 3) := xI_add _ 3
      have e4 : xI (6 * j) + 4 = xI (6 * j + 4) := xI_add _ 4
      have e5 : xI (6 * j) + 5 = xI (6 * j + 5) := xI_add _ 5
      have fin : ∀ {W S : x_m → Option (Int32 × x_m)}, (∀ M R, SR M R n → ∃ n', n' ≤ n + 20 ∧ LO n' M R (W M) (S R)) → ∃ r : Int32 × x_m, one W S (fun m' => B_LW_law_23 L xs f (xI (6 * j) + 6) m') m = some r ∧ r.1 = 1 := by
        intro W S H
        obtain ⟨m', n', x1, x2, x3⟩ := one_ok (W := W) (S := S) (fun m' => B_LW_law_23 L xs f (xI (6 * j) + 6) m') h H
        rw [x3]
        exact K m' n' x2 x1
      unfold B_LW_law_221 B_LW_law_277 B_LW_law_346 B_LW_law_415 B_LW_law_483 B_LW_law_563 B_LW_law_643 B_LW_law_711 B_LW_law_779 B_LW_law_847 B_LW_law_903 B_LW_law_959 B_LW_law_1027 B_LW_law_1072 B_LW_law_1078 B_LW_law_1081
      simp only [e1, e2, e3, e4, e5, show x_ix (xI (6 * j)) L = true from g 0 (by omega), g 1 (by omega), g 2 (by omega), g 3 (by omega), g 4 (by omega), g 5 (by omega), if_true]
      generalize xs (xI (6 * j)).toNatClampNeg &&& 15 = op
      by_cases o0 : op = 0
      · simp only [if_pos o0]
        exact fin (W := fun m => F_LW_feed _ _ _ _ _ m) (S := fun m => F_MD_feed _ _ _ _ _ m) (fun M R hs => LO_le (LO_feed hs (by omega) _ _ _ _ _) (by omega))
      simp only [if_neg o0]
      by_cases o1 : op = 1
      · simp only [if_pos o1]
        refine fin (W := fun m => F_LW_trim _ m) (S := fun m => F_MD_trim _ m) (fun M R hs => ?_)
        obtain ⟨n', x, y⟩ := LO_trim hs (xs (xI (6 * j + 1)).toNatClampNeg)
        exact ⟨n', by omega, y⟩
      simp only [if_neg o1]
      by_cases o2 : op = 2
      · simp only [if_pos o2]
        obtain ⟨v, M', R', x1, x2, x3, x4, x5⟩ := SR_run h
        obtain ⟨v2, M2, R2, y1, y2, y3, y4, y5⟩ := SR_run (SR_mixR h x4)
        rw [x1] at y1
        injection y1 with y1
        injection y1 with c1 c2
        subst c1; subst c2
        rw [x1, Option.bind_some]
        simp only []
        rw [y2, Option.bind_some]
        simp only [if_true]
        exact K R2 0 (SR_mixL y3 y5) (by omega)
      simp only [if_neg o2]
      by_cases o3 : op = 3
      · simp only [if_pos o3]
        exact fin (W := fun m => F_LW_fault _ m) (S := fun m => F_MD_fault _ m) (fun M R hs => LO_le (LO_fault hs _) (by omega))
      simp only [if_neg o3]
      by_cases o4 : op = 4
      · simp only [if_pos o4]
        obtain ⟨v, M', R', x1, x2, x3, x4, x5⟩ := SR_open h
        obtain ⟨v2, M2, R2, y1, y2, y3, y4, y5⟩ := SR_open (SR_mixR h x4)
        rw [x1] at y1
        injection y1 with y1
        injection y1 with c1 c2
        subst c1; subst c2
        rw [x1, Option.bind_some]
        simp only []
        rw [y2, Option.bind_some]
        simp only [if_true]
        exact K R2 n (SR_mixL y3 y5) (by omega)
      simp only [if_neg o4]
      by_cases o5 : op = 5
      · simp only [if_pos o5]
        exact fin (W := fun m => F_LW_count _ m) (S := fun m => F_MD_count _ m) (fun M R hs => LO_le (LO_count hs _) (by omega))
      simp only [if_neg o5]
      by_cases o6 : op = 6
      · simp only [if_pos o6]
        exact fin (W := fun m => F_LW_dimension _ _ m) (S := fun m => F_MD_dimension2 _ _ m) (fun M R hs => LO_le (LO_dimension hs _ _) (by omega))
      simp only [if_neg o6]
      by_cases o7 : op = 7
      · simp only [if_pos o7]
        exact fin (W := fun m => F_LW_value _ _ _ m) (S := fun m => F_MD_value _ _ _ m) (fun M R hs => LO_le (LO_value hs _ _ _) (by omega))
      simp only [if_neg o7]
      by_cases o8 : op = 8
      · simp only [if_pos o8]
        exact fin (W := fun m => F_LW_rank _ _ _ m) (S := fun m => F_MD_rank _ _ _ m) (fun M R hs => LO_le (LO_rank hs _ _ _) (by omega))
      simp only [if_neg o8]
      by_cases o9 : op = 9
      · simp only [if_pos o9]
        exact fin (W := fun m => F_LW_find _ _ m) (S := fun m => F_MD_find _ _ m) (fun M R hs => LO_le (LO_find hs _ _) (by omega))
      simp only [if_neg o9]
      by_cases oA : op = 10
      · simp only [if_pos oA]
        exact fin (W := fun m => F_LW_letter _ _ m) (S := fun m => F_MD_letter _ _ m) (fun M R hs => LO_le (LO_letter hs _ _) (by omega))
      simp only [if_neg oA]
      by_cases oB : op = 11
      · simp only [if_pos oB]
        exact fin (W := fun m => F_LW_item _ _ m) (S := fun m => F_MD_item2 _ _ m) (fun M R hs => LO_le (LO_item hs _ _) (by omega))
      simp only [if_neg oB]
      by_cases oC : op = 12
      · simp only [if_pos oC]
        exact fin (W := fun m => F_LW_group _ m) (S := fun m => F_MD_group _ m) (fun M R hs => LO_le (LO_group hs _) (by omega))
      simp only [if_neg oC]
      by_cases oD : op = 13
      · simp only [if_pos oD]
        exact fin (W := fun m => F_LW_set _ m) (S := fun m => F_MD_set _ m) (fun M R hs => LO_le (LO_set hs _) (by omega))
      simp only [if_neg oD]
      by_cases oE : op = 14
      · simp only [if_pos oE]
        exact fin (W := fun m => F_LW_pick _ _ m) (S := fun m => F_MD_pick _ _ m) (fun M R hs => LO_le (LO_pick hs _ _) (by omega))
      simp only [if_neg oE]
      by_cases oF : op = 15
      · simp only [if_pos oF]
        obtain ⟨code, M', v, R', x1, x2, x3, x4, x5, x6, x7⟩ := LH_holds h
        obtain ⟨code2, M2, v2, R2, y1, y2, y3, y4, y5, y6, y7⟩ := LH_holds (SR_mixR h x6)
        rw [x1] at y1
        injection y1 with y1
        injection y1 with c1 c2
        subst c1; subst c2
        unfold F_MD_thrown
        rw [x1, Option.bind_some]
        simp only []
        rw [y2, Option.bind_some, Option.bind_some]
        simp only []
        rw [if_pos y3, y7.2.2.2]
        have kk := K R2 n (SR_mixL y5 y7) (by omega)
        by_cases z : code = 0
        · rw [if_pos z, y4 z]
          by_cases zv : v2 = 0
          · rw [if_pos zv, if_pos zv, if_pos (lg_self _)]; exact kk
          · rw [if_neg zv, if_neg zv, if_pos (lg_self _)]; exact kk
        · rw [if_neg z]; exact kk
      · simp only [if_neg oF]
        exact K m n h (by omega)
