theorem rp_AM (q : Nat) (xs : Nat → Int32) (hq : q ≤ 3584) : ∃ n x, rp_run rp_mt rp_mi rp_cf rp_tx (some (q, xs)) n (227, 0, 0, 0, [.ref 0, rp_U, rp_U, rp_U], [], ([.inr (99, [])], fun _ _ => 0)) = some x ∧ x.1 = some (.int 1) := by
  sorry
