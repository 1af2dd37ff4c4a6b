def h_0 : mH := (0, 0, fun _ => .inr (0, []))
theorem law_pure (X : mX) (hX : X.1 ≤ 3072) : ∃ h', f_L_law X h_0 = some (1, h') ∧ h'.1 - 0 ≤ 600000 ∧ h'.2.1 - 0 ≤ 7302250 := by
  sorry
