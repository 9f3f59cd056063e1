theorem rp_oks : ∀ j, j < 228 → rp_okM j = true := by sorry
