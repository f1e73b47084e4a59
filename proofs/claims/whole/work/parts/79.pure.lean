theorem pure_law (B L : Nat) (zs : Nat → Int32) (hL : L ≤ 2560) : ∃ I1 I2 : HI, f_X1_begin (fun _ _ => 0) (B + 20) 8 2 = some I1 ∧ f_X1_complete I1 (B + 20) = some I2 ∧ f_L_law L zs (iS B I2) (fun _ => 0) B (B + 338) = some 1 := by
  sorry
