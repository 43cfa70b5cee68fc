def m0 : Mem := (0, fun _ => 0, fun _ => 0, fun _ _ => 0, fun _ _ => none)
theorem t2_law (L : Nat) (xs : Nat → Int32) (hL : L ≤ 2048) : wL_start (fun v1 v2 v3 μ => v1 = 0 ∧ v2 = 17 ∧ v3 = 34 ∧ Lay μ ∧ ∃ n, n ≤ 514 ∧ wL_law_23 L xs (fun _ _ => True) (fun v _ => v = 1) n 0 μ) m0 := by
  sorry
