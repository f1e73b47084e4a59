/-! the bit count -/
/-- how many of the first n hold -/
def cntB (c : Nat → Bool) : Nat → Nat
  | 0 => 0
  | n + 1 => cntB c n + (if c n = true then 1 else 0)
/-- the class's steps on natural numbers -/
def pcN (n : Nat) : Nat :=
  let a := n - ((n >>> 1) &&& 1431655765)
  let b := (a &&& 858993459) + ((a >>> 2) &&& 858993459)
  (b + (b >>> 4)) &&& 252645135
theorem pc_byte : ∀ n, n < 256 → pcN n = cntB (fun i => n.testBit i) 8 := by decide +kernel
theorem and_sp {m n K k s : Nat} (hn : n < 256) (hk : k < 2 ^ (8 - s)) (hs : s ≤ 8) : ((2 ^ 8 * m + n) >>> s) &&& (2 ^ 8 * K + k) = 2 ^ 8 * ((m >>> s) &&& K) + ((n >>> s) &&& k) := by
  have hk8 : k < 2 ^ 8 := Nat.lt_of_lt_of_le hk (Nat.pow_le_pow_right (by decide) (by omega))
  have hn8 : n < 2 ^ 8 := hn
  have hb : (n >>> s) &&& k < 2 ^ 8 := Nat.lt_of_le_of_lt Nat.and_le_right hk8
  refine Nat.eq_of_testBit_eq fun j => ?_
  rw [Nat.testBit_and, Nat.testBit_shiftRight, Nat.testBit_two_pow_mul_add _ hn8, Nat.testBit_two_pow_mul_add _ hk8, Nat.testBit_two_pow_mul_add _ hb]
  by_cases hj : j < 8
  · rw [if_pos hj, if_pos hj, Nat.testBit_and, Nat.testBit_shiftRight]
    by_cases hj2 : s + j < 8
    · rw [if_pos hj2]
    · rw [Nat.testBit_lt_two_pow (Nat.lt_of_lt_of_le hk (Nat.pow_le_pow_right (by decide) (by omega)) : k < 2 ^ j)]
      simp
  · rw [if_neg hj, if_neg hj, if_neg (by omega), Nat.testBit_and, Nat.testBit_shiftRight, show s + j - 8 = s + (j - 8) by omega]
def pcM (K L Q n : Nat) : Nat :=
  let a := n - ((n >>> 1) &&& K)
  let b := (a &&& L) + ((a >>> 2) &&& L)
  (b + (b >>> 4)) &&& Q
theorem and_sp0 {m n K k : Nat} (hn : n < 256) (hk : k < 256) : (2 ^ 8 * m + n) &&& (2 ^ 8 * K + k) = 2 ^ 8 * (m &&& K) + (n &&& k) := and_sp (s := 0) hn hk (by omega)
theorem and3 (a L : Nat) (hL : L % 16 = 3) : (a &&& L) % 16 ≤ 3 := by
  rw [show (16 : Nat) = 2 ^ 4 from rfl, Nat.and_mod_two_pow]
  have h : L % 2 ^ 4 = 3 := hL
  rw [h]
  exact Nat.and_le_right
theorem pc_sp {m n K L Q : Nat} (hn : n < 256) (hL : L % 16 = 3) : pcM (2 ^ 8 * K + 85) (2 ^ 8 * L + 51) (2 ^ 8 * Q + 15) (2 ^ 8 * m + n) = 2 ^ 8 * pcM K L Q m + pcM 85 51 15 n := by
  unfold pcM
  dsimp only
  rw [and_sp (s := 1) (k := 85) hn (by decide) (by omega)]
  have h1 : (m >>> 1) &&& K ≤ m := Nat.le_trans Nat.and_le_left (Nat.shiftRight_le m 1)
  have h2 : (n >>> 1) &&& 85 ≤ n := Nat.le_trans Nat.and_le_left (Nat.shiftRight_le n 1)
  have e1 : 2 ^ 8 * m + n - (2 ^ 8 * (m >>> 1 &&& K) + (n >>> 1 &&& 85)) = 2 ^ 8 * (m - (m >>> 1 &&& K)) + (n - (n >>> 1 &&& 85)) := by omega
  rw [e1]
  have hn2 : n - (n >>> 1 &&& 85) < 256 := by omega
  generalize m - (m >>> 1 &&& K) = a
  generalize n - (n >>> 1 &&& 85) = c at hn2 ⊢
  rw [and_sp0 hn2 (by omega), and_sp (s := 2) (k := 51) hn2 (by decide) (by omega)]
  have i1 := and3 a L hL
  have i2 := and3 (a >>> 2) L hL
  have i3 : c &&& 51 ≤ 51 := Nat.and_le_right
  have i4 : (c >>> 2) &&& 51 ≤ 51 := Nat.and_le_right
  generalize a &&& L = p at i1 ⊢
  generalize (a >>> 2) &&& L = q at i2 ⊢
  generalize c &&& 51 = x at i3 ⊢
  generalize (c >>> 2) &&& 51 = y at i4 ⊢
  rw [Nat.shiftRight_eq_div_pow, Nat.shiftRight_eq_div_pow, Nat.shiftRight_eq_div_pow]
  have e2 : 2 ^ 8 * p + x + (2 ^ 8 * q + y) + (2 ^ 8 * p + x + (2 ^ 8 * q + y)) / 2 ^ 4 = 2 ^ 8 * (p + q + (p + q) / 2 ^ 4) + (x + y + (x + y) / 2 ^ 4 + 16 * ((p + q) % 16)) := by omega
  rw [e2, and_sp0 (by omega) (by omega)]
  have e3 : ∀ z, z &&& 15 = z % 16 := fun z => Nat.and_two_pow_sub_one_eq_mod z 4
  rw [e3, e3]
  omega
theorem cnt_sp {m n : Nat} (hn : n < 256) : ∀ k, cntB (fun i => (2 ^ 8 * m + n).testBit i) (8 + k) = cntB (fun i => n.testBit i) 8 + cntB (fun i => m.testBit i) k
  | 0 => by
    have hn8 : n < 2 ^ 8 := hn
    have e : ∀ j, j ≤ 8 → cntB (fun i => (2 ^ 8 * m + n).testBit i) j = cntB (fun i => n.testBit i) j := by
      intro j
      induction j with
      | zero => intro _; rfl
      | succ j ih =>
        intro hj
        rw [cntB, cntB, ih (by omega)]
        rw [Nat.testBit_two_pow_mul_add _ hn8, if_pos (show j < 8 by omega)]
    exact e 8 (by omega)
  | k + 1 => by
    have hn8 : n < 2 ^ 8 := hn
    show cntB (fun i => (2 ^ 8 * m + n).testBit i) (8 + k) + (if (2 ^ 8 * m + n).testBit (8 + k) = true then 1 else 0) = _
    rw [cnt_sp hn k, Nat.testBit_two_pow_mul_add _ hn8, if_neg (show ¬ 8 + k < 8 by omega), show 8 + k - 8 = k by omega]
    exact Nat.add_assoc _ _ _
theorem pc_b : ∀ n, n < 256 → pcM 85 51 15 n = cntB (fun i => n.testBit i) 8 ∧ pcM 85 51 15 n ≤ 8 := by decide +kernel
def pcF (n : Nat) : Nat :=
  let x := pcM 1431655765 858993459 252645135 n
  let y := x + (x >>> 8)
  let z := y + (y >>> 16)
  z &&& 63
theorem pcF_eq {n : Nat} (hn : n < 2 ^ 32) : pcF n = cntB (fun i => n.testBit i) 32 := by
  obtain ⟨d0, d1, d2, d3, h0, h1, h2, h3, e⟩ : ∃ d0 d1 d2 d3, d0 < 256 ∧ d1 < 256 ∧ d2 < 256 ∧ d3 < 256 ∧ n = 2 ^ 8 * (2 ^ 8 * (2 ^ 8 * d3 + d2) + d1) + d0 := ⟨n % 256, n / 256 % 256, n / 65536 % 256, n / 16777216, by omega, by omega, by omega, by omega, by omega⟩
  have p1 := pc_sp (m := d3) (K := 85) (L := 51) (Q := 15) h2 (by decide)
  have p2 := pc_sp (m := 2 ^ 8 * d3 + d2) (K := 2 ^ 8 * 85 + 85) (L := 2 ^ 8 * 51 + 51) (Q := 2 ^ 8 * 15 + 15) h1 (by decide)
  have p3 := pc_sp (m := 2 ^ 8 * (2 ^ 8 * d3 + d2) + d1) (K := 2 ^ 8 * (2 ^ 8 * 85 + 85) + 85) (L := 2 ^ 8 * (2 ^ 8 * 51 + 51) + 51) (Q := 2 ^ 8 * (2 ^ 8 * 15 + 15) + 15) h0 (by decide)
  rw [p1] at p2
  rw [p2] at p3
  have q0 := pc_b d0 h0
  have q1 := pc_b d1 h1
  have q2 := pc_b d2 h2
  have q3 := pc_b d3 h3
  have c3 := cnt_sp (m := d3) h2 8
  have c2 := cnt_sp (m := 2 ^ 8 * d3 + d2) h1 16
  have c1 := cnt_sp (m := 2 ^ 8 * (2 ^ 8 * d3 + d2) + d1) h0 24
  rw [← e] at p3 c1
  have px : pcM 1431655765 858993459 252645135 n = 2 ^ 8 * (2 ^ 8 * (2 ^ 8 * pcM 85 51 15 d3 + pcM 85 51 15 d2) + pcM 85 51 15 d1) + pcM 85 51 15 d0 := p3
  unfold pcF
  dsimp only
  rw [px]
  have e3 : ∀ z, z &&& 63 = z % 64 := fun z => Nat.and_two_pow_sub_one_eq_mod z 6
  rw [e3, Nat.shiftRight_eq_div_pow, Nat.shiftRight_eq_div_pow]
  have c1' : cntB (fun i => n.testBit i) 32 = cntB (fun i => d0.testBit i) 8 + cntB (fun i => (2 ^ 8 * (2 ^ 8 * d3 + d2) + d1).testBit i) 24 := c1
  have c2' : cntB (fun i => (2 ^ 8 * (2 ^ 8 * d3 + d2) + d1).testBit i) 24 = cntB (fun i => d1.testBit i) 8 + cntB (fun i => (2 ^ 8 * d3 + d2).testBit i) 16 := c2
  have c3' : cntB (fun i => (2 ^ 8 * d3 + d2).testBit i) 16 = cntB (fun i => d2.testBit i) 8 + cntB (fun i => d3.testBit i) 8 := c3
  rw [c1', c2', c3', ← q0.1, ← q1.1, ← q2.1, ← q3.1]
  have r0 := q0.2
  have r1 := q1.2
  have r2 := q2.2
  have r3 := q3.2
  clear p1 p2 p3 px c1 c2 c3 c1' c2' c3' q0 q1 q2 q3 e hn
  generalize pcM 85 51 15 d0 = t0 at *
  generalize pcM 85 51 15 d1 = t1 at *
  generalize pcM 85 51 15 d2 = t2 at *
  generalize pcM 85 51 15 d3 = t3 at *
  have e5 : (2 ^ 8 * (2 ^ 8 * (2 ^ 8 * t3 + t2) + t1) + t0) / 2 ^ 8 = 2 ^ 8 * (2 ^ 8 * t3 + t2) + t1 := by omega
  rw [e5]
  have e6 : (2 ^ 8 * (2 ^ 8 * (2 ^ 8 * t3 + t2) + t1) + t0 + (2 ^ 8 * (2 ^ 8 * t3 + t2) + t1)) / 2 ^ 16 = 2 ^ 8 * t3 + (t2 + t3) := by omega
  rw [e6]
  have e7 : 2 ^ 8 * (2 ^ 8 * (2 ^ 8 * t3 + t2) + t1) + t0 + (2 ^ 8 * (2 ^ 8 * t3 + t2) + t1) + (2 ^ 8 * t3 + (t2 + t3)) = 64 * (262144 * t3 + 1024 * t2 + 4 * t1 + 1024 * t3 + 4 * t2 + 4 * t3) + (t0 + t1 + t2 + t3) := by omega
  rw [e7, Nat.mul_add_mod]
  omega
theorem nand (a b : Nat) : nI a &&& nI b = nI (a &&& b) := by
  refine Int32.toBitVec_inj.mp ?_
  rw [Int32.toBitVec_and]
  show BitVec.ofNat 32 a &&& BitVec.ofNat 32 b = BitVec.ofNat 32 (a &&& b)
  refine BitVec.eq_of_getLsbD_eq fun i hi => ?_
  rw [BitVec.getLsbD_and, BitVec.getLsbD_ofNat, BitVec.getLsbD_ofNat, BitVec.getLsbD_ofNat, Nat.testBit_and]
  simp [hi]
theorem cnt_u : ∀ n, n < 32 → (((nI n).toUInt32 &&& Int32.toUInt32 31).toBitVec % 32).toNat = n := by decide +kernel
theorem nushr {a s : Nat} (ha : a < 2 ^ 32) (hs : s < 32) : ((nI a).toUInt32 >>> ((nI s).toUInt32 &&& Int32.toUInt32 31)).toInt32 = nI (a >>> s) := by
  refine Int32.toBitVec_inj.mp ?_
  show ((nI a).toUInt32 >>> ((nI s).toUInt32 &&& Int32.toUInt32 31)).toBitVec = BitVec.ofNat 32 (a >>> s)
  rw [UInt32.toBitVec_shiftRight]
  refine BitVec.eq_of_getLsbD_eq fun i hi => ?_
  show (BitVec.ofNat 32 a >>> (((nI s).toUInt32 &&& Int32.toUInt32 31).toBitVec % 32).toNat).getLsbD i = _
  rw [cnt_u s hs, BitVec.getLsbD_ushiftRight, BitVec.getLsbD_ofNat, BitVec.getLsbD_ofNat, Nat.testBit_shiftRight]
  by_cases h : s + i < 32
  · simp [hi, h]
  · rw [Nat.testBit_lt_two_pow (Nat.lt_of_lt_of_le ha (Nat.pow_le_pow_right (by decide) (by omega)))]
    simp
theorem j6_bitCount {n : Nat} (hn : n < 2 ^ 32) : f_J6_bitCount_0f7a4 (nI n) = some (nI (pcF n)) := by
  have k1 : (1431655765 : Int32) = nI 1431655765 := rfl
  have k2 : (858993459 : Int32) = nI 858993459 := rfl
  have k3 : (252645135 : Int32) = nI 252645135 := rfl
  have k4 : (63 : Int32) = nI 63 := rfl
  unfold f_J6_bitCount_0f7a4 pcF pcM
  dsimp only
  have h1 : (n >>> 1) &&& 1431655765 ≤ n := Nat.le_trans Nat.and_le_left (Nat.shiftRight_le n 1)
  rw [k1, k2, k3, k4, i_1, i_2, i_4, i_8, i_16, lt1s, nushr hn (by omega), nand, nsub h1]
  generalize ha : n - ((n >>> 1) &&& 1431655765) = a
  have ha' : a < 2 ^ 32 := by omega
  rw [lt1s, nushr ha' (by omega), nand, nand, nadd]
  have l1 : a &&& 858993459 ≤ 858993459 := Nat.and_le_right
  have l2 : (a >>> 2) &&& 858993459 ≤ 858993459 := Nat.and_le_right
  generalize hb : (a &&& 858993459) + ((a >>> 2) &&& 858993459) = b
  have hb' : b < 2 ^ 32 := by omega
  rw [lt1s, nushr hb' (by omega), nadd, nand]
  have l3 : (b + b >>> 4) &&& 252645135 ≤ 252645135 := Nat.and_le_right
  generalize (b + b >>> 4) &&& 252645135 = c at l3
  rw [lt1s, nushr (show c < 2 ^ 32 by omega) (by omega), nadd]
  have l4 := Nat.shiftRight_le c 8
  generalize hy : c + c >>> 8 = y
  rw [lt1s, nushr (show y < 2 ^ 32 by omega) (by omega), nadd, nand]
