/-! the bit count -/
/-- how many of the first n hold -/
def cntB (c : Nat → Bool) : Nat → Nat
  | 0 => 0
  | n + 1 => cntB c n + (if c n = true then 1 else 0)
/-- the class's steps on natural numbers -/
def pcN (n : Nat) : Nat :=
  let a := n - ((n >>> 1) &&& 1431655765)
  let b := (a &&& 858993459) + ((a >>> 2) &&& 858993459)
  (b + (b >>> 4)) &&& 252645135
theorem pc_byte : ∀ n, n < 256 → pcN n = cntB (fun i => n.testBit i) 8 := by decide +kernel
