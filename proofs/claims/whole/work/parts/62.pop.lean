/-! the bit count -/
/-- how many of the first n hold -/
def cntB (c : Nat → Bool) : Nat → Nat
  | 0 => 0
  | n + 1 => cntB c n + (if c n = true then 1 else 0)
/-- the class's steps on natural numbers -/
def pcN (n : Nat) : Nat :=
  let a := n - ((n >>> 1) &&& 1431655765)
  let b := (a &&& 858993459) + ((a >>> 2) &&& 858993459)
  (b + (b >>> 4)) &&& 252645135
theorem pc_byte : ∀ n, n < 256 → pcN n = cntB (fun i => n.testBit i) 8 := by decide +kernel
theorem and_sp {m n K k s : Nat} (hn : n < 256) (hk : k < 2 ^ (8 - s)) (hs : s ≤ 8) : ((2 ^ 8 * m + n) >>> s) &&& (2 ^ 8 * K + k) = 2 ^ 8 * ((m >>> s) &&& K) + ((n >>> s) &&& k) := by
  have hk8 : k < 2 ^ 8 := Nat.lt_of_lt_of_le hk (Nat.pow_le_pow_right (by decide) (by omega))
  have hn8 : n < 2 ^ 8 := hn
  have hb : (n >>> s) &&& k < 2 ^ 8 := Nat.lt_of_le_of_lt Nat.and_le_right hk8
  refine Nat.eq_of_testBit_eq fun j => ?_
  rw [Nat.testBit_and, Nat.testBit_shiftRight, Nat.testBit_two_pow_mul_add _ hn8, Nat.testBit_two_pow_mul_add _ hk8, Nat.testBit_two_pow_mul_add _ hb]
  by_cases hj : j < 8
  · rw [if_pos hj, if_pos hj, Nat.testBit_and, Nat.testBit_shiftRight]
    by_cases hj2 : s + j < 8
    · rw [if_pos hj2]
    · rw [Nat.testBit_lt_two_pow (Nat.lt_of_lt_of_le hk (Nat.pow_le_pow_right (by decide) (by omega)) : k < 2 ^ j)]
      simp
  · rw [if_neg hj, if_neg hj, if_neg (by omega), Nat.testBit_and, Nat.testBit_shiftRight, show s + j - 8 = s + (j - 8) by omega]
