/-! PURE PART 5: the reference's steps, all of them -/
set_option maxRecDepth 100000 in
theorem d_stC1 : ∀ k, k < 24 → ∀ c, c < 24 → f_X10_stepsTo h_C 44 (nI k) (nI c) = some (t_st k c) := by decide +kernel
set_option maxRecDepth 100000 in
theorem d_stC2 : ∀ k, k < 24 → ∀ c, c < 9 → f_X10_stepsTo h_C 44 (nI k) (nI (40 + c)) = some (t_st k (40 + c)) := by decide +kernel
set_option maxRecDepth 100000 in
theorem t_st_up : ∀ k, k < 24 → ∀ c, c < 49 → n_c c = true → decide (t_st k c = -1) = !(t_up c k) := by decide +kernel
set_option maxRecDepth 100000 in
theorem d_cmC : ∀ a, a < 24 → ∀ b, b < 24 → f_X10_common h_C 44 (nI a) (nI b) = some (t_cm a b) := by decide +kernel
