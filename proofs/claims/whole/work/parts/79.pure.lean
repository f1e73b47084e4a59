/-- the reference's ints when it has been made -/
def iM (j k : Nat) : Int32 := if j = 0 then (if k = 4 then 8 else if k = 5 then 2 else if k = 6 then 1 else 0) else if j = 2 then zC 30000 k else if j = 3 then zC 30000 k else 0
/-- all ints when both have been made -/
def iS (B : Nat) (I : HI) : HI := fun q => if q < B + 338 then I q else iM (q - (B + 338))
theorem pure_law (B L : Nat) (zs : Nat → Int32) (hL : L ≤ 2560) : ∃ I1 I2 : HI, f_X1_begin (fun _ _ => 0) (B + 20) 8 2 = some I1 ∧ f_X1_complete I1 (B + 20) = some I2 ∧ f_L_law L zs (iS B I2) (fun _ => 0) B (B + 338) = some 1 := by
  sorry
