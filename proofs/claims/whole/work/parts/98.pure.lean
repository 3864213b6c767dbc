/-- the law's loop, as numbers alone -/
theorem law_pure (L : Nat) (xs : Nat → Int32) (hL : L ≤ 4096) : ∃ n, lp_L_law_18 L xs (fun r _ => r = 1) (fun _ _ => True) n 0 q_h0 := sorry
