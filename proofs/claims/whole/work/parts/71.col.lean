/-! questions: what stays, columns -/
def pQ (q a _b : Nat) : Prop := a = 3 ∨ (q ≤ a ∧ a < q + 136)
def qQ (q a : Nat) : Prop := q ≤ a ∧ a < q + 136
def pQr (r a b : Nat) : Prop := (a = 387 ∧ ((5 ≤ b ∧ b ≤ 12) ∨ b = 24 ∨ b = 25)) ∨ (r ≤ a ∧ a < r + 14)
def qQr (r a : Nat) : Prop := r ≤ a ∧ a < r + 14
theorem upq {q : Nat} {m m' : x_m} (h : fr pC q0 m m') : fr (pQ q) (qQ q) m m' := fr_mono h (fun _ _ z => Or.inl z) (fun _ z => z.elim)
theorem upqr {r : Nat} {m m' : x_m} (h : fr pR q0 m m') : fr (pQr r) (qQr r) m m' := fr_mono h (fun _ _ z => Or.inl ⟨z.1, Or.inl z.2⟩) (fun _ z => z.elim)
def LR (M R : x_m) (D : Nat) : Prop := ∀ d, d < D → ∃ L, 1 ≤ L ∧ L ≤ 4 ∧ M.1 (9 + 13 * d) 0 = xI L ∧ R.2.1 389 d = xI L
/-- what a question finds: text, names, counts, levels; where it is read into -/
def ZQ (M R : x_m) (n D Ms q r : Nat) : Prop := Zl M R n ∧ Zd M R D Ms ∧ LR M R D ∧ M.2.2.1 114 4 = q ∧ R.2.2.1 387 22 = r ∧ (q = 115 ∨ q = 251) ∧ (r = 395 ∨ r = 409)
theorem ZQ_fr {M R M' R' : x_m} {n D Ms q r : Nat} (h : ZQ M R n D Ms q r) (f : fr (pQ q) (qQ q) M M') (g : fr (pQr r) (qQr r) R R') (h5 : Fz M' R') : ZQ M' R' n D Ms q r := by
  obtain ⟨⟨a1, a2, a3, a4, a5, a6, a7, a8, a9⟩, ⟨b1, b2, b3, b4, b5, b6⟩, c, d1, d2, d3, d4⟩ := h
  have pc : ∀ a b, a ≠ 3 → a < 115 → ¬ pQ q a b := fun a b x y => by unfold pQ; omega
  have qc : ∀ a, a < 115 → ¬ qQ q a := fun a y => by unfold qQ; omega
  have pr : ∀ b, (b < 5 ∨ 12 < b) → b ≠ 24 → b ≠ 25 → ¬ pQr r 387 b := fun b x y z => by unfold pQr; omega
  have qr : ∀ a, a < 395 → ¬ qQr r a := fun a y => by unfold qQr; omega
  refine ⟨⟨a1, (f.1 _ _ (pc _ _ (by omega) (by omega))).trans a2, ?_, (g.1 _ _ (pr _ (by omega) (by omega) (by omega))).trans a4, ?_, h5, ?_, ?_, ?_⟩, ⟨(f.1 _ _ (pc _ _ (by omega) (by omega))).trans b1, (g.1 _ _ (pr _ (by omega) (by omega) (by omega))).trans b2, b3, (f.1 _ _ (pc _ _ (by omega) (by omega))).trans b4, (g.1 _ _ (pr _ (by omega) (by omega) (by omega))).trans b5, b6⟩, ?_, (f.2.2.1 _ _ (by omega)).trans d1, (g.2.2.1 _ _ (by omega)).trans d2, d3, d4⟩
  · rw [f.2.1 2 (qc _ (by omega))]; exact a3
  · rw [f.2.1 2 (qc _ (by omega)), g.2.1 388 (qr _ (by omega))]; exact a5
  · rw [f.2.1 6 (qc _ (by omega)), g.2.1 393 (qr _ (by omega))]; exact a7
  · rw [f.2.1 7 (qc _ (by omega)), g.2.1 394 (qr _ (by omega))]; exact a8
  · rw [f.2.1 7 (qc _ (by omega))]; exact a9
  · intro d hd
    obtain ⟨L, l1, l2, l3, l4⟩ := c d hd
    exact ⟨L, l1, l2, (f.1 _ _ (pc _ _ (by omega) (by omega))).trans l3, (congrFun (g.2.1 389 (qr _ (by omega))) d).trans l4⟩
/-- step2 for questions -/
theorem stepQ {M R : x_m} {n D Ms q r : Nat} (h : ZQ M R n D Ms q r) {k s e : Nat} (he : e ≤ n) : ∃ M' R' mr k' s' e', F_LX_advance (ct M k s e) = some (ct M' k' s' e') ∧ F_MD_read (rt R k s e) = some mr ∧ RS R' mr k' s' e' ∧ ZQ M' R' n D Ms q r ∧ fr pC q0 M M' ∧ fr pR q0 R R' ∧ TF n e k' s' e' ∧ (k' = 2 → M'.1 3 4 = R'.1 387 11) ∧ (k' ≠ 2 → k' ≠ 36 → M' = M ∧ R' = R) := by
  obtain ⟨M1, R1, mr, k1, s1, e1, h1, h2, h3, h4, h5, h6, h7, h8, h9⟩ := step2 h.1 (k := k) (s := s) he
  exact ⟨M1, R1, mr, k1, s1, e1, h1, h2, h3, ZQ_fr h (upq h5) (upqr h6) (Zl_f h4), h5, h6, h7, h8, h9⟩
def colC (j : Int32) (m : x_m) : Option (Int32 × x_m) := ((F_LX_next (x_N + 9) m).bind fun r50 => (if r50.1 = 0 then some ((-1), r50.2) else ((F_LX_advance r50.2).bind fun r62 => ((F_CT_columnNumber j 0 r62).bind fun r69 => (if x_ix j 8 = true then ((F_NM_read (8 + r69.1) (r69.2.1 (9 + 13 * j.toNatClampNeg) 0) r69.2).bind fun r95 => (if r95.1 = ((-1)) then B_QG_readColumn_116 ((-1)) r95.2 else ((F_CT_columnNumber j r95.1 r95.2).bind fun r113 => B_QG_readColumn_116 r113.1 r113.2))) else none)))))
theorem F_MD_columnsDimension_f (m : x_m) (h : m.1 387 5 ≠ 0) : F_MD_columnsDimension m = some (0, m) := by
  unfold F_MD_columnsDimension B_MD_columnsDimension_20 B_MD_columnsDimension_31 B_MD_columnsDimension_47
  rw [F_MD_name_f m h, Option.bind_some]
  simp only [if_true, F_MD_want_f m _ _ _ h, Option.bind_some]
  split <;> rfl
theorem F_MD_columnsLevel_f (m : x_m) (j : Int32) (h : 0 < m.1 387 5) : F_MD_columnsLevel j m = some (0, m) := by
  unfold F_MD_columnsLevel
  rw [F_MD_needSign_f m _ h]
  rfl
theorem ls_col1 {M R mr : x_m} {n D Ms q r e0 k s e : Nat} (h : ZQ M R n D Ms q r) (hs : RS R mr k s e) (ht : TF n e0 k s e) :
    (∃ j, j < D ∧ k = 3 ∧ F_NM_read 0 (xI D) (ct M k s e) = some (xI j, ct M k s e) ∧ F_MD_columnsDimension mr = some (xI j, rt R k s e)) ∨
    (∃ mc mr', F_NM_read 0 (xI D) (ct M k s e) = some (-1, mc) ∧ F_MD_columnsDimension mr = some (0, mr') ∧ Flt mc mr' ∧ fr pC q0 M mc ∧ fr pR q0 R mr') := by
  have h4 := h.1
  obtain ⟨d1, d2, d3, d4, d5, d6⟩ := h.2.1
  have hR : F_MD_columnsDimension mr = lkR (xI 0) (fun m => m.1 387 13) (fun a w m => if w = 0 then some (0, m) else some (a, m)) mr := rfl
  obtain ⟨l1, l2⟩ := lkR_eq (fun a w m => if w = 0 then some ((0 : Int32), m) else some (a, m)) (first := 0) (cnt := D) h4.1 hs (Zl_5 h4) ht (by omega) (fun m => m.1 387 13) d2
  rw [(Zl_nk h4).1, (Zl_nk h4).2.1, h4.2.2.2.2.1] at l1 l2
  rw [hR]
  rcases F_NM_read_eq (Zl_c h4) ht (first := 0) (cnt := D) (by omega) with ⟨j, b1, b2, b3, b4⟩ | ⟨b1, b2⟩
  · left
    refine ⟨j, b1, b2, b4, ?_⟩
    rw [l1 j b1 b2 b3]
    rfl
  · right
    obtain ⟨mr', a, y1, y2, y3, y4⟩ := l2 b1
    have hp : 0 < mr'.1 387 5 := by rw [y2]; exact nmX_pos k
    refine ⟨_, mr', b2, ?_, ⟨by rw [y2]; rfl, by rw [y3]; rfl, hp⟩, fr_trans (fr_ct _ _ _ _) (fr_cf _ _ _), y4⟩
    rw [y1]; rfl
theorem ls_col2 {M R : x_m} {n D Ms q r j s e : Nat} (h : ZQ M R n D Ms q r) (hj : j < D) (he : e ≤ n) :
    (∃ c s' e', c < 32 ∧ c / 4 = j ∧ (∃ L, M.1 (9 + 13 * j) 0 = xI L ∧ L ≤ 4 ∧ c % 4 < L) ∧ colC (xI j) (ct M 3 s e) = some (xI c, ct M 3 s' e') ∧ F_MD_columnsLevel (xI j) (rt R 3 s e) = some (xI c, rt R 3 s' e') ∧ s' ≤ e' ∧ e' ≤ n ∧ e < e') ∨
    (∃ mc mr', colC (xI j) (ct M 3 s e) = some (-1, mc) ∧ F_MD_columnsLevel (xI j) (rt R 3 s e) = some (0, mr') ∧ Flt mc mr' ∧ fr pC q0 M mc ∧ fr pR q0 R mr') := by
  have h4 := h.1
  obtain ⟨d1, d2, d3, d4, d5, d6⟩ := h.2.1
  obtain ⟨L, a1, a2, a3, a4⟩ := h.2.2.1 j hj
  unfold colC F_MD_columnsLevel
  rcases ls_next h4 (k := 3) (s := s) (e := e) (j := 9) he (by omega) (by omega) with ⟨s1, e1, c1, c2, c3, c4, c5, c6⟩ | ⟨mc, mr2, c1, c2, c3, c4, c5⟩
  · rw [c1, Option.bind_some, show F_MD_needSign 46 (rt R 3 s e) = _ from c2, Option.bind_some]
    simp only [show ((1 : Int32) = 0) = False from by decide, if_false]
    obtain ⟨M3, R3, mr3, k3, s3, e3, i1, i2, i3, i4, i5, i6, i7, i8, i9⟩ := step2 h4 (k := 9) (s := s1) c4
    have i7' := i7
    obtain ⟨u1, u2, u3, u4, u5, u6, u7⟩ := i7
    rw [i1, i2, Option.bind_some, Option.bind_some]
    unfold F_CT_columnNumber
    rw [Option.bind_some]
    simp only [Option.bind_some]
    have ec : (8 : Int32) + (xI j * 4 + 0) = xI (8 + 4 * j) := by
      rw [show xI j * 4 = xI (j * 4) from xI_mul j 4, show xI (j * 4) + 0 = xI (j * 4 + 0) from xI_add (j * 4) 0, show (8 : Int32) + xI (j * 4 + 0) = xI (8 + (j * 4 + 0)) from xI_add 8 _]
      congr 1; omega
    have e4 : (8 : Int32) + 4 * xI j = xI (8 + 4 * j) := by
      rw [show (4 : Int32) * xI j = xI (4 * j) from xI_mul 4 j, show (8 : Int32) + xI (4 * j) = xI (8 + 4 * j) from xI_add 8 _]
    rw [xI_ix (by omega), if_pos (show decide (j < 8) = true by simp; omega), xI_cl (by omega), ec]
    have l0 : (ct M3 k3 s3 e3).1 (9 + 13 * j) 0 = xI L := by
      show (if 9 + 13 * j = 3 then _ else M3.1 (9 + 13 * j) 0) = _
      rw [if_neg (by omega)]
      exact (i5.1 _ _ (by unfold pC; omega)).trans a3
    rw [l0]
    have hR : ((F_MD_name mr3).bind fun r16 => (if r16.1 = 0 then B_MD_columnsLevel_42 (xI j) 0 r16.2 else (if decide (j < 8) = true then ((F_MD_among (8 + (4 * xI j)) (r16.2.2.1 389 j) r16.2).bind fun r35 => B_MD_columnsLevel_42 (xI j) r35.1 r35.2) else none))) = lkR (xI (8 + 4 * j)) (fun m => m.2.1 389 j) (fun a w m => if w = 0 then some (0, m) else some ((4 * xI j) + a, m)) mr3 := by
      unfold lkR lkR.lkR2 B_MD_columnsLevel_42 B_MD_columnsLevel_53 B_MD_columnsLevel_73
      simp only [e4, show (decide (j < 8) = true) = True from by simp; omega, if_true]
    rw [hR]
    obtain ⟨l1, l2⟩ := lkR_eq (fun a w m => if w = 0 then some ((0 : Int32), m) else some ((4 * xI j) + a, m)) (first := 8 + 4 * j) (cnt := L) h4.1 i3 (Zl_5 i4) i7' (by omega) (fun m => m.2.1 389 j) ((congrFun (i6.2.1 389 id) j).trans a4)
    rw [(Zl_nk i4).1, (Zl_nk i4).2.1, i4.2.2.2.2.1] at l1 l2
    rcases F_NM_read_eq (Zl_c i4) i7' (first := 8 + 4 * j) (cnt := L) (by omega) with ⟨v, b1, b2, b3, b4⟩ | ⟨b1, b2⟩
    · left
      subst b2
      obtain ⟨eM, eR⟩ := i9 (by omega) (by omega)
      subst eM; subst eR
      rw [b4, l1 v b1 rfl b3, Option.bind_some]
      simp only []
      rw [if_neg (xI_neg1 (by omega)), if_neg (show ¬ (1 : Int32) = 0 by decide)]
      have := u5 (by omega)
      refine ⟨4 * j + v, s3, e3, by omega, by omega, ⟨L, a3, a2, by omega⟩, ?_, ?_, u1, u2, by omega⟩
      · unfold B_QG_readColumn_116
        rw [show xI j * 4 = xI (j * 4) from xI_mul j 4, xI_add, show j * 4 + v = 4 * j + v by omega]
      · rw [show (4 : Int32) * xI j = xI (4 * j) from xI_mul 4 j, xI_add]
    · right
      obtain ⟨mr', a, y1, y2, y3, y4⟩ := l2 b1
      rw [b2, y1, Option.bind_some]
      have hp : 0 < mr'.1 387 5 := by rw [y2]; exact nmX_pos k3
      exact ⟨_, mr', rfl, rfl, ⟨by rw [y2]; rfl, by rw [y3]; rfl, hp⟩, fr_trans i5 (fr_trans (fr_ct _ _ _ _) (fr_cf _ _ _)), fr_trans i6 y4⟩
  · right
    rw [c1, Option.bind_some, show F_MD_needSign 46 (rt R 3 s e) = _ from c2, Option.bind_some]
    exact ⟨mc, mr2, rfl, rfl, c3, c4, c5⟩
/-- a column of the question, full: one too many -/
theorem ls_column {M R mr : x_m} {n D Ms q r e0 k s e : Nat} (full : Bool) (h : ZQ M R n D Ms q r) (hs : RS R mr k s e) (ht : TF n e0 k s e) :
    (∃ mc mr', F_QG_readColumn (bI full) (ct M k s e) = some (-1, mc) ∧ F_MD_columnsDimension mr = some (0, mr') ∧ Flt mc mr' ∧ fr pC q0 M mc ∧ fr pR q0 R mr') ∨
    (∃ j, j < D ∧ k = 3 ∧ F_MD_columnsDimension mr = some (xI j, rt R 3 s e) ∧
      ((full = true ∧ F_QG_readColumn (bI full) (ct M k s e) = some (-1, cf (ct M k s e) 7 (xI s))) ∨
       (full = false ∧ ((∃ mc mr', F_QG_readColumn (bI full) (ct M k s e) = some (-1, mc) ∧ F_MD_columnsLevel (xI j) (rt R 3 s e) = some (0, mr') ∧ Flt mc mr' ∧ fr pC q0 M mc ∧ fr pR q0 R mr') ∨
        (∃ c s' e', c < 32 ∧ c / 4 = j ∧ (∃ L, M.1 (9 + 13 * j) 0 = xI L ∧ L ≤ 4 ∧ c % 4 < L) ∧ F_QG_readColumn (bI full) (ct M k s e) = some (xI c, ct M 3 s' e') ∧ F_MD_columnsLevel (xI j) (rt R 3 s e) = some (xI c, rt R 3 s' e') ∧ s' ≤ e' ∧ e' ≤ n ∧ e < e'))))) := by
  have hC : F_QG_readColumn (bI full) (ct M k s e) = (F_NM_read 0 (xI D) (ct M k s e)).bind fun r16 => (if r16.1 = ((-1)) then some ((-1), r16.2) else (if bI full = 0 then colC r16.1 r16.2 else ((F_LX_tellHere 7 r16.2).bind fun r37 => some ((-1), r37.2)))) := by
    unfold F_QG_readColumn
    rw [show (ct M k s e).1 4 2 = xI D from h.2.1.1]
    rfl
  rw [hC]
  rcases ls_col1 h hs ht with ⟨j, b1, b2, b3, b4⟩ | ⟨mc, mr', b1, b2, b3, b4, b5⟩
  · right
    subst b2
    refine ⟨j, b1, rfl, b4, ?_⟩
    have hj8 := h.2.1.2.2.1
    rw [b3, Option.bind_some]
    simp only [bI_0]
    rw [if_neg (xI_neg1 (by omega))]
    cases full
    · right
      refine ⟨rfl, ?_⟩
      rw [if_pos rfl]
      rcases ls_col2 h b1 (s := s) (e := e) ht.2.1 with ⟨c, s', e', c1, c2, c3, c4, c5, c6, c7, c8⟩ | ⟨mc, mr', c1, c2, c3, c4, c5⟩
      · right; exact ⟨c, s', e', c1, c2, c3, c4, c5, c6, c7, c8⟩
      · left; exact ⟨mc, mr', c1, c2, c3, c4, c5⟩
    · left
      refine ⟨rfl, ?_⟩
      rw [if_neg (by decide)]
      rfl
  · left
    rw [b1, Option.bind_some]
    exact ⟨mc, mr', rfl, b2, b3, b4, b5⟩
