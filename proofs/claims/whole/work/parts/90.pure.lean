/-- the pure half -/
theorem x_pure (L : Nat) (xs : Nat → Int32) (hL : L ≤ 3072) : ∃ r : Int32 × x_m, B_LW_law_23 L xs 600 0 x_m0 = some r ∧ r.1 = 1 := by
  have := law_loop (xs := xs) hL 600 0 0 x_m0 SR_0 (by omega) (by omega) (by omega)
  rw [show xI (6 * 0) = 0 from rfl] at this
  exact this
