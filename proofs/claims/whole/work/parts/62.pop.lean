/-! the bit count -/
/-- how many of the first n hold -/
def cntB (c : Nat → Bool) : Nat → Nat
  | 0 => 0
  | n + 1 => cntB c n + (if c n = true then 1 else 0)
/-- the class's steps on natural numbers -/
def pcN (n : Nat) : Nat :=
  let a := n - ((n >>> 1) &&& 1431655765)
  let b := (a &&& 858993459) + ((a >>> 2) &&& 858993459)
  (b + (b >>> 4)) &&& 252645135
theorem pc_byte : ∀ n, n < 256 → pcN n = cntB (fun i => n.testBit i) 8 := by decide +kernel
theorem and_sp {m n K k s : Nat} (hn : n < 256) (hk : k < 2 ^ (8 - s)) (hs : s ≤ 8) : ((2 ^ 8 * m + n) >>> s) &&& (2 ^ 8 * K + k) = 2 ^ 8 * ((m >>> s) &&& K) + ((n >>> s) &&& k) := by
  have hk8 : k < 2 ^ 8 := Nat.lt_of_lt_of_le hk (Nat.pow_le_pow_right (by decide) (by omega))
  have hn8 : n < 2 ^ 8 := hn
  have hb : (n >>> s) &&& k < 2 ^ 8 := Nat.lt_of_le_of_lt Nat.and_le_right hk8
  refine Nat.eq_of_testBit_eq fun j => ?_
  rw [Nat.testBit_and, Nat.testBit_shiftRight, Nat.testBit_two_pow_mul_add _ hn8, Nat.testBit_two_pow_mul_add _ hk8, Nat.testBit_two_pow_mul_add _ hb]
  by_cases hj : j < 8
  · rw [if_pos hj, if_pos hj, Nat.testBit_and, Nat.testBit_shiftRight]
    by_cases hj2 : s + j < 8
    · rw [if_pos hj2]
    · rw [Nat.testBit_lt_two_pow (Nat.lt_of_lt_of_le hk (Nat.pow_le_pow_right (by decide) (by omega)) : k < 2 ^ j)]
      simp
  · rw [if_neg hj, if_neg hj, if_neg (by omega), Nat.testBit_and, Nat.testBit_shiftRight, show s + j - 8 = s + (j - 8) by omega]
def pcM (K L Q n : Nat) : Nat :=
  let a := n - ((n >>> 1) &&& K)
  let b := (a &&& L) + ((a >>> 2) &&& L)
  (b + (b >>> 4)) &&& Q
theorem and_sp0 {m n K k : Nat} (hn : n < 256) (hk : k < 256) : (2 ^ 8 * m + n) &&& (2 ^ 8 * K + k) = 2 ^ 8 * (m &&& K) + (n &&& k) := and_sp (s := 0) hn hk (by omega)
theorem and3 (a L : Nat) (hL : L % 16 = 3) : (a &&& L) % 16 ≤ 3 := by
  rw [show (16 : Nat) = 2 ^ 4 from rfl, Nat.and_mod_two_pow]
  have h : L % 2 ^ 4 = 3 := hL
  rw [h]
  exact Nat.and_le_right
theorem pc_sp {m n K L Q : Nat} (hn : n < 256) (hL : L % 16 = 3) : pcM (2 ^ 8 * K + 85) (2 ^ 8 * L + 51) (2 ^ 8 * Q + 15) (2 ^ 8 * m + n) = 2 ^ 8 * pcM K L Q m + pcM 85 51 15 n := by
  unfold pcM
  dsimp only
  rw [and_sp (s := 1) (k := 85) hn (by decide) (by omega)]
  have h1 : (m >>> 1) &&& K ≤ m := Nat.le_trans Nat.and_le_left (Nat.shiftRight_le m 1)
  have h2 : (n >>> 1) &&& 85 ≤ n := Nat.le_trans Nat.and_le_left (Nat.shiftRight_le n 1)
  have e1 : 2 ^ 8 * m + n - (2 ^ 8 * (m >>> 1 &&& K) + (n >>> 1 &&& 85)) = 2 ^ 8 * (m - (m >>> 1 &&& K)) + (n - (n >>> 1 &&& 85)) := by omega
  rw [e1]
  have hn2 : n - (n >>> 1 &&& 85) < 256 := by omega
  generalize m - (m >>> 1 &&& K) = a
  generalize n - (n >>> 1 &&& 85) = c at hn2 ⊢
  rw [and_sp0 hn2 (by omega), and_sp (s := 2) (k := 51) hn2 (by decide) (by omega)]
  have i1 := and3 a L hL
  have i2 := and3 (a >>> 2) L hL
  have i3 : c &&& 51 ≤ 51 := Nat.and_le_right
  have i4 : (c >>> 2) &&& 51 ≤ 51 := Nat.and_le_right
  generalize a &&& L = p at i1 ⊢
  generalize (a >>> 2) &&& L = q at i2 ⊢
  generalize c &&& 51 = x at i3 ⊢
  generalize (c >>> 2) &&& 51 = y at i4 ⊢
  rw [Nat.shiftRight_eq_div_pow, Nat.shiftRight_eq_div_pow, Nat.shiftRight_eq_div_pow]
  have e2 : 2 ^ 8 * p + x + (2 ^ 8 * q + y) + (2 ^ 8 * p + x + (2 ^ 8 * q + y)) / 2 ^ 4 = 2 ^ 8 * (p + q + (p + q) / 2 ^ 4) + (x + y + (x + y) / 2 ^ 4 + 16 * ((p + q) % 16)) := by omega
  rw [e2, and_sp0 (by omega) (by omega)]
  have e3 : ∀ z, z &&& 15 = z % 16 := fun z => Nat.and_two_pow_sub_one_eq_mod z 4
  rw [e3, e3]
  omega
