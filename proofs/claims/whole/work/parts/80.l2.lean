/-- LEVEL 2, wanting still -/
theorem l2_law (L : Nat) (hL : L ≤ 3072) (xs : Nat → Int32) : ∃ h' : Mem, F_L_law 4000 L xs 0 102 4000 0 h0 = some ((), h') := by
  sorry
